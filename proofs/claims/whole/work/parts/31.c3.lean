-- 168: ThreePlates.isTurn(I)Z
def dn168 (o : xH × Option Value) (r : xS × Int32) : Prop := o = (hk_of r.1, some (.int r.2))
noncomputable def f168_14 (y0 : Int32) (s : xS) : Option (xS × Int32) := ifg (y0 = 0 ∨ y0 = 1) <| some (s, y0)
set_option maxRecDepth 20000 in
theorem s168_14 {sc : Option (Nat × (Nat → Int32))} {y0 : Int32} {s : xS} {o : xH × Option Value} {r : (xS × Int32)}  (h : f168_14 y0 s = some r) (hr : dn168 o r) : Ev sc 1 168 [] 14 [none] [.int y0] (hk_of s) o := by
  unfold f168_14 at h
  refine E_blk rfl ?_
  obtain ⟨g1, h⟩ := ifg_some h
  cases h
  exact E_ret rfl (pg_mt_md (by decide)) (hk_retz g1 rfl) hr
noncomputable def f168_13  (s : xS) : Option (xS × Int32) := f168_14 (0 : Int32) s
set_option maxRecDepth 20000 in
theorem s168_13 {sc : Option (Nat × (Nat → Int32))}  {s : xS} {o : xH × Option Value} {r : (xS × Int32)}  (h : f168_13  s = some r) (hr : dn168 o r) : Ev sc 1 168 [] 13 [none] [] (hk_of s) o := by
  unfold f168_13 at h
  refine E_blk rfl ?_
  refine E_ps 1 (pc' := 14) (l' := [none]) (st' := [.int (0 : Int32)]) rfl ?_
  exact E_wk (l' := [none]) trivial (s168_14  h hr)
noncomputable def f168 (x0 : Int32) (s : xS) : Option (xS × Int32) :=  if x0 < 0 then (f168_13  s) else (if (3 : Int32) < x0 then (f168_13  s) else (f168_14 (1 : Int32) s))
set_option maxRecDepth 20000 in
theorem s168 {sc : Option (Nat × (Nat → Int32))} {x0 : Int32} {s : xS} {r : xS × Int32} (h : f168 x0 s = some r) : Cl sc 1 168 [.int x0] (hk_of s) (hk_of r.1, some (.int r.2)) := by
  unfold f168 at h
  refine ⟨pg_md 168, [some (.int x0)], pg_mt_md (by decide), rfl, rfl, ?_⟩
  generalize ho : ((hk_of r.1, some (Value.int r.2)) : xH × Option Value) = o
  have hr : dn168 o r := ho.symm
  refine E_blk rfl ?_
  refine E_ps 1 (pc' := 1) (l' := [some (.int x0)]) (st' := [.int x0]) rfl ?_
  by_cases c1 : x0 < 0
  · rw [if_pos c1] at h
    refine E_jt rfl rfl c1 ?_
    exact E_wk (l' := [none]) trivial (s168_13  h hr)
  · rw [if_neg c1] at h
    refine E_jf rfl rfl c1 ?_
    refine E_blk rfl ?_
    refine E_ps 2 (pc' := 6) (l' := [some (.int x0)]) (st' := [.int (3 : Int32), .int x0]) rfl ?_
    by_cases c2 : (3 : Int32) < x0
    · rw [if_pos c2] at h
      refine E_jt rfl rfl c2 ?_
      exact E_wk (l' := [none]) trivial (s168_13  h hr)
    · rw [if_neg c2] at h
      refine E_jf rfl rfl c2 ?_
      refine E_blk rfl ?_
      refine E_ps 1 (pc' := 10) (l' := [some (.int x0)]) (st' := [.int (1 : Int32)]) rfl ?_
      refine E_j rfl rfl ?_
      exact E_wk (l' := [none]) trivial (s168_14  h hr)

-- 169: ThreePlates.isShift(I)Z
def dn169 (o : xH × Option Value) (r : xS × Int32) : Prop := o = (hk_of r.1, some (.int r.2))
noncomputable def f169_15 (y0 : Int32) (s : xS) : Option (xS × Int32) := ifg (y0 = 0 ∨ y0 = 1) <| some (s, y0)
set_option maxRecDepth 20000 in
theorem s169_15 {sc : Option (Nat × (Nat → Int32))} {y0 : Int32} {s : xS} {o : xH × Option Value} {r : (xS × Int32)}  (h : f169_15 y0 s = some r) (hr : dn169 o r) : Ev sc 1 169 [] 15 [none] [.int y0] (hk_of s) o := by
  unfold f169_15 at h
  refine E_blk rfl ?_
  obtain ⟨g1, h⟩ := ifg_some h
  cases h
  exact E_ret rfl (pg_mt_md (by decide)) (hk_retz g1 rfl) hr
noncomputable def f169_14  (s : xS) : Option (xS × Int32) := f169_15 (0 : Int32) s
set_option maxRecDepth 20000 in
theorem s169_14 {sc : Option (Nat × (Nat → Int32))}  {s : xS} {o : xH × Option Value} {r : (xS × Int32)}  (h : f169_14  s = some r) (hr : dn169 o r) : Ev sc 1 169 [] 14 [none] [] (hk_of s) o := by
  unfold f169_14 at h
  refine E_blk rfl ?_
  refine E_ps 1 (pc' := 15) (l' := [none]) (st' := [.int (0 : Int32)]) rfl ?_
  exact E_wk (l' := [none]) trivial (s169_15  h hr)
noncomputable def f169 (x0 : Int32) (s : xS) : Option (xS × Int32) :=  if x0 < (-1 : Int32) then (f169_14  s) else (if (1 : Int32) < x0 then (f169_14  s) else (f169_15 (1 : Int32) s))
set_option maxRecDepth 20000 in
theorem s169 {sc : Option (Nat × (Nat → Int32))} {x0 : Int32} {s : xS} {r : xS × Int32} (h : f169 x0 s = some r) : Cl sc 1 169 [.int x0] (hk_of s) (hk_of r.1, some (.int r.2)) := by
  unfold f169 at h
  refine ⟨pg_md 169, [some (.int x0)], pg_mt_md (by decide), rfl, rfl, ?_⟩
  generalize ho : ((hk_of r.1, some (Value.int r.2)) : xH × Option Value) = o
  have hr : dn169 o r := ho.symm
  refine E_blk rfl ?_
  refine E_ps 2 (pc' := 2) (l' := [some (.int x0)]) (st' := [.int (-1 : Int32), .int x0]) rfl ?_
  by_cases c1 : x0 < (-1 : Int32)
  · rw [if_pos c1] at h
    refine E_jt rfl rfl c1 ?_
    exact E_wk (l' := [none]) trivial (s169_14  h hr)
  · rw [if_neg c1] at h
    refine E_jf rfl rfl c1 ?_
    refine E_blk rfl ?_
    refine E_ps 2 (pc' := 7) (l' := [some (.int x0)]) (st' := [.int (1 : Int32), .int x0]) rfl ?_
    by_cases c2 : (1 : Int32) < x0
    · rw [if_pos c2] at h
      refine E_jt rfl rfl c2 ?_
      exact E_wk (l' := [none]) trivial (s169_14  h hr)
    · rw [if_neg c2] at h
      refine E_jf rfl rfl c2 ?_
      refine E_blk rfl ?_
      refine E_ps 1 (pc' := 11) (l' := [some (.int x0)]) (st' := [.int (1 : Int32)]) rfl ?_
      refine E_j rfl rfl ?_
      exact E_wk (l' := [none]) trivial (s169_15  h hr)

-- 165: ThreePlates.canLie(IIIII)Z
def dn165 (o : xH × Option Value) (r : xS × Int32) : Prop := o = (hk_of r.1, some (.int r.2))
noncomputable def f165_55 (y0 : Int32) (s : xS) : Option (xS × Int32) := ifg (y0 = 0 ∨ y0 = 1) <| some (s, y0)
set_option maxRecDepth 20000 in
theorem s165_55 {sc : Option (Nat × (Nat → Int32))} {y0 : Int32} {s : xS} {o : xH × Option Value} {r : (xS × Int32)}  (h : f165_55 y0 s = some r) (hr : dn165 o r) : Ev sc 2 165 [] 55 [none, none, none, none, none, none] [.int y0] (hk_of s) o := by
  unfold f165_55 at h
  refine E_blk rfl ?_
  obtain ⟨g1, h⟩ := ifg_some h
  cases h
  exact E_ret rfl (pg_mt_md (by decide)) (hk_retz g1 rfl) hr
noncomputable def f165_54  (s : xS) : Option (xS × Int32) := f165_55 (0 : Int32) s
set_option maxRecDepth 20000 in
theorem s165_54 {sc : Option (Nat × (Nat → Int32))}  {s : xS} {o : xH × Option Value} {r : (xS × Int32)}  (h : f165_54  s = some r) (hr : dn165 o r) : Ev sc 2 165 [] 54 [none, none, none, none, none, none] [] (hk_of s) o := by
  unfold f165_54 at h
  refine E_blk rfl ?_
  refine E_ps 1 (pc' := 55) (l' := [none, none, none, none, none, none]) (st' := [.int (0 : Int32)]) rfl ?_
  exact E_wk (l' := [none, none, none, none, none, none]) trivial (s165_55  h hr)
noncomputable def f165 (x0 : Nat) (x1 : Int32) (x2 : Int32) (x3 : Int32) (x4 : Int32) (x5 : Int32) (s : xS) : Option (xS × Int32) := ifg (oK x0 11 = true) <| (hk_R x0 1).bind fun a1 => (f66 a1 x1 s).bind fun z4 => if z4.2 = 0 then (f165_54  z4.1) else ((hk_R x0 1).bind fun a7 => (f66 a7 x2 z4.1).bind fun z10 => if z10.2 = 0 then (f165_54  z10.1) else (if x1 = x2 then (f165_54  z10.1) else ((f168 x3 z10.1).bind fun z14 => if z14.2 = 0 then (f165_54  z14.1) else ((f169 x4 z14.1).bind fun z17 => if z17.2 = 0 then (f165_54  z17.1) else ((f169 x5 z17.1).bind fun z20 => if z20.2 = 0 then (f165_54  z20.1) else (f165_55 (1 : Int32) z20.1))))))
set_option maxRecDepth 20000 in
theorem s165 {sc : Option (Nat × (Nat → Int32))} {x0 : Nat} {x1 : Int32} {x2 : Int32} {x3 : Int32} {x4 : Int32} {x5 : Int32} {s : xS} {r : xS × Int32} (h : f165 x0 x1 x2 x3 x4 x5 s = some r) : Cl sc 2 165 [.ref x0, .int x1, .int x2, .int x3, .int x4, .int x5] (hk_of s) (hk_of r.1, some (.int r.2)) := by
  unfold f165 at h
  obtain ⟨k0, h⟩ := ifg_some h
  refine ⟨pg_md 165, [some (.ref x0), some (.int x1), some (.int x2), some (.int x3), some (.int x4), some (.int x5)], pg_mt_md (by decide), (hk_rcv k0), rfl, ?_⟩
  generalize ho : ((hk_of r.1, some (Value.int r.2)) : xH × Option Value) = o
  have hr : dn165 o r := ho.symm
  refine E_blk rfl ?_
  refine E_ps 1 (pc' := 1) (l' := [some (.ref x0), some (.int x1), some (.int x2), some (.int x3), some (.int x4), some (.int x5)]) (st' := [.ref x0]) rfl ?_
  obtain ⟨a1, e2, h⟩ := Option.bind_eq_some_iff.mp h
  refine E_gr k0 (by decide) rfl e2 ?_
  have kf3 : oK a1 7 = true := hk_rty k0 e2 rfl (by decide)
  refine E_ps 1 (pc' := 5) (l' := [some (.ref x0), some (.int x1), some (.int x2), some (.int x3), some (.int x4), some (.int x5)]) (st' := [.int x1, .ref a1]) rfl ?_
  obtain ⟨z4, e5, h⟩ := Option.bind_eq_some_iff.mp h
  refine E_callI (vs := [.ref a1, .int x1]) (rest := []) rfl (by decide) rfl rfl (Nat.le_of_ble_eq_true rfl) (s66 e5) (by decide) ?_
  by_cases c6 : z4.2 = 0
  · rw [if_pos c6] at h
    refine E_jt rfl rfl c6 ?_
    exact E_wk (l' := [none, none, none, none, none, none]) trivial (s165_54  h hr)
  · rw [if_neg c6] at h
    refine E_jf rfl rfl c6 ?_
    refine E_blk rfl ?_
    refine E_ps 1 (pc' := 12) (l' := [some (.ref x0), some (.int x1), some (.int x2), some (.int x3), some (.int x4), some (.int x5)]) (st' := [.ref x0]) rfl ?_
    obtain ⟨a7, e8, h⟩ := Option.bind_eq_some_iff.mp h
    refine E_gr k0 (by decide) rfl e8 ?_
    have kf9 : oK a7 7 = true := hk_rty k0 e8 rfl (by decide)
    refine E_ps 1 (pc' := 16) (l' := [some (.ref x0), some (.int x1), some (.int x2), some (.int x3), some (.int x4), some (.int x5)]) (st' := [.int x2, .ref a7]) rfl ?_
    obtain ⟨z10, e11, h⟩ := Option.bind_eq_some_iff.mp h
    refine E_callI (vs := [.ref a7, .int x2]) (rest := []) rfl (by decide) rfl rfl (Nat.le_of_ble_eq_true rfl) (s66 e11) (by decide) ?_
    by_cases c12 : z10.2 = 0
    · rw [if_pos c12] at h
      refine E_jt rfl rfl c12 ?_
      exact E_wk (l' := [none, none, none, none, none, none]) trivial (s165_54  h hr)
    · rw [if_neg c12] at h
      refine E_jf rfl rfl c12 ?_
      refine E_blk rfl ?_
      refine E_ps 2 (pc' := 24) (l' := [some (.ref x0), some (.int x1), some (.int x2), some (.int x3), some (.int x4), some (.int x5)]) (st' := [.int x2, .int x1]) rfl ?_
      by_cases c13 : x1 = x2
      · rw [if_pos c13] at h
        refine E_jt rfl rfl c13 ?_
        exact E_wk (l' := [none, none, none, none, none, none]) trivial (s165_54  h hr)
      · rw [if_neg c13] at h
        refine E_jf rfl rfl c13 ?_
        refine E_blk rfl ?_
        refine E_ps 1 (pc' := 28) (l' := [some (.ref x0), some (.int x1), some (.int x2), some (.int x3), some (.int x4), some (.int x5)]) (st' := [.int x3]) rfl ?_
        obtain ⟨z14, e15, h⟩ := Option.bind_eq_some_iff.mp h
        refine E_callI (vs := [.int x3]) (rest := []) rfl (by decide) rfl rfl (Nat.le_of_ble_eq_true rfl) (s168 e15) (by decide) ?_
        by_cases c16 : z14.2 = 0
        · rw [if_pos c16] at h
          refine E_jt rfl rfl c16 ?_
          exact E_wk (l' := [none, none, none, none, none, none]) trivial (s165_54  h hr)
        · rw [if_neg c16] at h
          refine E_jf rfl rfl c16 ?_
          refine E_blk rfl ?_
          refine E_ps 1 (pc' := 36) (l' := [some (.ref x0), some (.int x1), some (.int x2), some (.int x3), some (.int x4), some (.int x5)]) (st' := [.int x4]) rfl ?_
          obtain ⟨z17, e18, h⟩ := Option.bind_eq_some_iff.mp h
          refine E_callI (vs := [.int x4]) (rest := []) rfl (by decide) rfl rfl (Nat.le_of_ble_eq_true rfl) (s169 e18) (by decide) ?_
          by_cases c19 : z17.2 = 0
          · rw [if_pos c19] at h
            refine E_jt rfl rfl c19 ?_
            exact E_wk (l' := [none, none, none, none, none, none]) trivial (s165_54  h hr)
          · rw [if_neg c19] at h
            refine E_jf rfl rfl c19 ?_
            refine E_blk rfl ?_
            refine E_ps 1 (pc' := 44) (l' := [some (.ref x0), some (.int x1), some (.int x2), some (.int x3), some (.int x4), some (.int x5)]) (st' := [.int x5]) rfl ?_
            obtain ⟨z20, e21, h⟩ := Option.bind_eq_some_iff.mp h
            refine E_callI (vs := [.int x5]) (rest := []) rfl (by decide) rfl rfl (Nat.le_of_ble_eq_true rfl) (s169 e21) (by decide) ?_
            by_cases c22 : z20.2 = 0
            · rw [if_pos c22] at h
              refine E_jt rfl rfl c22 ?_
              exact E_wk (l' := [none, none, none, none, none, none]) trivial (s165_54  h hr)
            · rw [if_neg c22] at h
              refine E_jf rfl rfl c22 ?_
              refine E_blk rfl ?_
              refine E_ps 1 (pc' := 51) (l' := [some (.ref x0), some (.int x1), some (.int x2), some (.int x3), some (.int x4), some (.int x5)]) (st' := [.int (1 : Int32)]) rfl ?_
              refine E_j rfl rfl ?_
              exact E_wk (l' := [none, none, none, none, none, none]) trivial (s165_55  h hr)

-- 166: ThreePlates.isPart(I)Z
def dn166 (o : xH × Option Value) (r : xS × Int32) : Prop := o = (hk_of r.1, some (.int r.2))
noncomputable def f166_14 (y0 : Int32) (s : xS) : Option (xS × Int32) := ifg (y0 = 0 ∨ y0 = 1) <| some (s, y0)
set_option maxRecDepth 20000 in
theorem s166_14 {sc : Option (Nat × (Nat → Int32))} {y0 : Int32} {s : xS} {o : xH × Option Value} {r : (xS × Int32)}  (h : f166_14 y0 s = some r) (hr : dn166 o r) : Ev sc 1 166 [] 14 [none] [.int y0] (hk_of s) o := by
  unfold f166_14 at h
  refine E_blk rfl ?_
  obtain ⟨g1, h⟩ := ifg_some h
  cases h
  exact E_ret rfl (pg_mt_md (by decide)) (hk_retz g1 rfl) hr
noncomputable def f166_9  (s : xS) : Option (xS × Int32) := f166_14 (1 : Int32) s
set_option maxRecDepth 20000 in
theorem s166_9 {sc : Option (Nat × (Nat → Int32))}  {s : xS} {o : xH × Option Value} {r : (xS × Int32)}  (h : f166_9  s = some r) (hr : dn166 o r) : Ev sc 1 166 [] 9 [none] [] (hk_of s) o := by
  unfold f166_9 at h
  refine E_blk rfl ?_
  refine E_ps 1 (pc' := 10) (l' := [none]) (st' := [.int (1 : Int32)]) rfl ?_
  refine E_j rfl rfl ?_
  exact E_wk (l' := [none]) trivial (s166_14  h hr)
noncomputable def f166 (x0 : Int32) (s : xS) : Option (xS × Int32) :=  if x0 = 0 then (f166_9  s) else (if x0 = (1 : Int32) then (f166_9  s) else (f166_14 (0 : Int32) s))
set_option maxRecDepth 20000 in
theorem s166 {sc : Option (Nat × (Nat → Int32))} {x0 : Int32} {s : xS} {r : xS × Int32} (h : f166 x0 s = some r) : Cl sc 1 166 [.int x0] (hk_of s) (hk_of r.1, some (.int r.2)) := by
  unfold f166 at h
  refine ⟨pg_md 166, [some (.int x0)], pg_mt_md (by decide), rfl, rfl, ?_⟩
  generalize ho : ((hk_of r.1, some (Value.int r.2)) : xH × Option Value) = o
  have hr : dn166 o r := ho.symm
  refine E_blk rfl ?_
  refine E_ps 1 (pc' := 1) (l' := [some (.int x0)]) (st' := [.int x0]) rfl ?_
  by_cases c1 : x0 = 0
  · rw [if_pos c1] at h
    refine E_jt rfl rfl c1 ?_
    exact E_wk (l' := [none]) trivial (s166_9  h hr)
  · rw [if_neg c1] at h
    refine E_jf rfl rfl c1 ?_
    refine E_blk rfl ?_
    refine E_ps 2 (pc' := 6) (l' := [some (.int x0)]) (st' := [.int (1 : Int32), .int x0]) rfl ?_
    by_cases c2 : x0 = (1 : Int32)
    · rw [if_pos c2] at h
      refine E_jt rfl rfl c2 ?_
      exact E_wk (l' := [none]) trivial (s166_9  h hr)
    · rw [if_neg c2] at h
      refine E_jf rfl rfl c2 ?_
      refine E_blk rfl ?_
      refine E_ps 1 (pc' := 14) (l' := [some (.int x0)]) (st' := [.int (0 : Int32)]) rfl ?_
      exact E_wk (l' := [none]) trivial (s166_14  h hr)

-- 285: java/lang/Integer.bitCount(I)I
def dn285 (o : xH × Option Value) (r : xS × Int32) : Prop := o = (hk_of r.1, some (.int r.2))
noncomputable def f285 (x0 : Int32) (s : xS) : Option (xS × Int32) :=  some (s, ((((((((x0 - ((xm_ush x0 (1 : Int32)) &&& (1431655765 : Int32))) &&& (858993459 : Int32)) + ((xm_ush (x0 - ((xm_ush x0 (1 : Int32)) &&& (1431655765 : Int32))) (2 : Int32)) &&& (858993459 : Int32))) + (xm_ush (((x0 - ((xm_ush x0 (1 : Int32)) &&& (1431655765 : Int32))) &&& (858993459 : Int32)) + ((xm_ush (x0 - ((xm_ush x0 (1 : Int32)) &&& (1431655765 : Int32))) (2 : Int32)) &&& (858993459 : Int32))) (4 : Int32))) &&& (252645135 : Int32)) + (xm_ush (((((x0 - ((xm_ush x0 (1 : Int32)) &&& (1431655765 : Int32))) &&& (858993459 : Int32)) + ((xm_ush (x0 - ((xm_ush x0 (1 : Int32)) &&& (1431655765 : Int32))) (2 : Int32)) &&& (858993459 : Int32))) + (xm_ush (((x0 - ((xm_ush x0 (1 : Int32)) &&& (1431655765 : Int32))) &&& (858993459 : Int32)) + ((xm_ush (x0 - ((xm_ush x0 (1 : Int32)) &&& (1431655765 : Int32))) (2 : Int32)) &&& (858993459 : Int32))) (4 : Int32))) &&& (252645135 : Int32)) (8 : Int32))) + (xm_ush ((((((x0 - ((xm_ush x0 (1 : Int32)) &&& (1431655765 : Int32))) &&& (858993459 : Int32)) + ((xm_ush (x0 - ((xm_ush x0 (1 : Int32)) &&& (1431655765 : Int32))) (2 : Int32)) &&& (858993459 : Int32))) + (xm_ush (((x0 - ((xm_ush x0 (1 : Int32)) &&& (1431655765 : Int32))) &&& (858993459 : Int32)) + ((xm_ush (x0 - ((xm_ush x0 (1 : Int32)) &&& (1431655765 : Int32))) (2 : Int32)) &&& (858993459 : Int32))) (4 : Int32))) &&& (252645135 : Int32)) + (xm_ush (((((x0 - ((xm_ush x0 (1 : Int32)) &&& (1431655765 : Int32))) &&& (858993459 : Int32)) + ((xm_ush (x0 - ((xm_ush x0 (1 : Int32)) &&& (1431655765 : Int32))) (2 : Int32)) &&& (858993459 : Int32))) + (xm_ush (((x0 - ((xm_ush x0 (1 : Int32)) &&& (1431655765 : Int32))) &&& (858993459 : Int32)) + ((xm_ush (x0 - ((xm_ush x0 (1 : Int32)) &&& (1431655765 : Int32))) (2 : Int32)) &&& (858993459 : Int32))) (4 : Int32))) &&& (252645135 : Int32)) (8 : Int32))) (16 : Int32))) &&& (63 : Int32)))
set_option maxRecDepth 20000 in
theorem s285 {sc : Option (Nat × (Nat → Int32))} {x0 : Int32} {s : xS} {r : xS × Int32} (h : f285 x0 s = some r) : Cl sc 1 285 [.int x0] (hk_of s) (hk_of r.1, some (.int r.2)) := by
  unfold f285 at h
  refine ⟨pg_md 285, [some (.int x0)], pg_mt_md (by decide), rfl, rfl, ?_⟩
  generalize ho : ((hk_of r.1, some (Value.int r.2)) : xH × Option Value) = o
  have hr : dn285 o r := ho.symm
  refine E_blk rfl ?_
  refine E_ps 41 (pc' := 52) (l' := [some (.int (((((((x0 - ((xm_ush x0 (1 : Int32)) &&& (1431655765 : Int32))) &&& (858993459 : Int32)) + ((xm_ush (x0 - ((xm_ush x0 (1 : Int32)) &&& (1431655765 : Int32))) (2 : Int32)) &&& (858993459 : Int32))) + (xm_ush (((x0 - ((xm_ush x0 (1 : Int32)) &&& (1431655765 : Int32))) &&& (858993459 : Int32)) + ((xm_ush (x0 - ((xm_ush x0 (1 : Int32)) &&& (1431655765 : Int32))) (2 : Int32)) &&& (858993459 : Int32))) (4 : Int32))) &&& (252645135 : Int32)) + (xm_ush (((((x0 - ((xm_ush x0 (1 : Int32)) &&& (1431655765 : Int32))) &&& (858993459 : Int32)) + ((xm_ush (x0 - ((xm_ush x0 (1 : Int32)) &&& (1431655765 : Int32))) (2 : Int32)) &&& (858993459 : Int32))) + (xm_ush (((x0 - ((xm_ush x0 (1 : Int32)) &&& (1431655765 : Int32))) &&& (858993459 : Int32)) + ((xm_ush (x0 - ((xm_ush x0 (1 : Int32)) &&& (1431655765 : Int32))) (2 : Int32)) &&& (858993459 : Int32))) (4 : Int32))) &&& (252645135 : Int32)) (8 : Int32))) + (xm_ush ((((((x0 - ((xm_ush x0 (1 : Int32)) &&& (1431655765 : Int32))) &&& (858993459 : Int32)) + ((xm_ush (x0 - ((xm_ush x0 (1 : Int32)) &&& (1431655765 : Int32))) (2 : Int32)) &&& (858993459 : Int32))) + (xm_ush (((x0 - ((xm_ush x0 (1 : Int32)) &&& (1431655765 : Int32))) &&& (858993459 : Int32)) + ((xm_ush (x0 - ((xm_ush x0 (1 : Int32)) &&& (1431655765 : Int32))) (2 : Int32)) &&& (858993459 : Int32))) (4 : Int32))) &&& (252645135 : Int32)) + (xm_ush (((((x0 - ((xm_ush x0 (1 : Int32)) &&& (1431655765 : Int32))) &&& (858993459 : Int32)) + ((xm_ush (x0 - ((xm_ush x0 (1 : Int32)) &&& (1431655765 : Int32))) (2 : Int32)) &&& (858993459 : Int32))) + (xm_ush (((x0 - ((xm_ush x0 (1 : Int32)) &&& (1431655765 : Int32))) &&& (858993459 : Int32)) + ((xm_ush (x0 - ((xm_ush x0 (1 : Int32)) &&& (1431655765 : Int32))) (2 : Int32)) &&& (858993459 : Int32))) (4 : Int32))) &&& (252645135 : Int32)) (8 : Int32))) (16 : Int32))))]) (st' := [.int ((((((((x0 - ((xm_ush x0 (1 : Int32)) &&& (1431655765 : Int32))) &&& (858993459 : Int32)) + ((xm_ush (x0 - ((xm_ush x0 (1 : Int32)) &&& (1431655765 : Int32))) (2 : Int32)) &&& (858993459 : Int32))) + (xm_ush (((x0 - ((xm_ush x0 (1 : Int32)) &&& (1431655765 : Int32))) &&& (858993459 : Int32)) + ((xm_ush (x0 - ((xm_ush x0 (1 : Int32)) &&& (1431655765 : Int32))) (2 : Int32)) &&& (858993459 : Int32))) (4 : Int32))) &&& (252645135 : Int32)) + (xm_ush (((((x0 - ((xm_ush x0 (1 : Int32)) &&& (1431655765 : Int32))) &&& (858993459 : Int32)) + ((xm_ush (x0 - ((xm_ush x0 (1 : Int32)) &&& (1431655765 : Int32))) (2 : Int32)) &&& (858993459 : Int32))) + (xm_ush (((x0 - ((xm_ush x0 (1 : Int32)) &&& (1431655765 : Int32))) &&& (858993459 : Int32)) + ((xm_ush (x0 - ((xm_ush x0 (1 : Int32)) &&& (1431655765 : Int32))) (2 : Int32)) &&& (858993459 : Int32))) (4 : Int32))) &&& (252645135 : Int32)) (8 : Int32))) + (xm_ush ((((((x0 - ((xm_ush x0 (1 : Int32)) &&& (1431655765 : Int32))) &&& (858993459 : Int32)) + ((xm_ush (x0 - ((xm_ush x0 (1 : Int32)) &&& (1431655765 : Int32))) (2 : Int32)) &&& (858993459 : Int32))) + (xm_ush (((x0 - ((xm_ush x0 (1 : Int32)) &&& (1431655765 : Int32))) &&& (858993459 : Int32)) + ((xm_ush (x0 - ((xm_ush x0 (1 : Int32)) &&& (1431655765 : Int32))) (2 : Int32)) &&& (858993459 : Int32))) (4 : Int32))) &&& (252645135 : Int32)) + (xm_ush (((((x0 - ((xm_ush x0 (1 : Int32)) &&& (1431655765 : Int32))) &&& (858993459 : Int32)) + ((xm_ush (x0 - ((xm_ush x0 (1 : Int32)) &&& (1431655765 : Int32))) (2 : Int32)) &&& (858993459 : Int32))) + (xm_ush (((x0 - ((xm_ush x0 (1 : Int32)) &&& (1431655765 : Int32))) &&& (858993459 : Int32)) + ((xm_ush (x0 - ((xm_ush x0 (1 : Int32)) &&& (1431655765 : Int32))) (2 : Int32)) &&& (858993459 : Int32))) (4 : Int32))) &&& (252645135 : Int32)) (8 : Int32))) (16 : Int32))) &&& (63 : Int32))]) rfl ?_
  cases h
  exact E_ret rfl (pg_mt_md (by decide)) rfl hr

-- 131: ThreePlates.lay(IIIIII)I
def dn131 (o : xH × Option Value) (r : xS × Int32) : Prop := o = (hk_of r.1, some (.int r.2))
noncomputable def f131_74 (y0 : Int32) (s : xS) : Option (xS × Int32) := some (s, y0)
set_option maxRecDepth 20000 in
theorem s131_74 {sc : Option (Nat × (Nat → Int32))} {y0 : Int32} {s : xS} {o : xH × Option Value} {r : (xS × Int32)}  (h : f131_74 y0 s = some r) (hr : dn131 o r) : Ev sc 5 131 [] 74 [none, none, none, none, none, none, none] [.int y0] (hk_of s) o := by
  unfold f131_74 at h
  refine E_blk rfl ?_
  cases h
  exact E_ret rfl (pg_mt_md (by decide)) rfl hr
noncomputable def f131_22  (s : xS) : Option (xS × Int32) := some (s, (-1 : Int32))
set_option maxRecDepth 20000 in
theorem s131_22 {sc : Option (Nat × (Nat → Int32))}  {s : xS} {o : xH × Option Value} {r : (xS × Int32)}  (h : f131_22  s = some r) (hr : dn131 o r) : Ev sc 5 131 [] 22 [none, none, none, none, none, none, none] [] (hk_of s) o := by
  unfold f131_22 at h
  refine E_blk rfl ?_
  refine E_ps 1 (pc' := 23) (l' := [none, none, none, none, none, none, none]) (st' := [.int (-1 : Int32)]) rfl ?_
  cases h
  exact E_ret rfl (pg_mt_md (by decide)) rfl hr
noncomputable def f131 (x0 : Nat) (x1 : Int32) (x2 : Int32) (x3 : Int32) (x4 : Int32) (x5 : Int32) (x6 : Int32) (s : xS) : Option (xS × Int32) := ifg (oK x0 11 = true) <| (f166 x6 s).bind fun z1 => if z1.2 = 0 then (f131_22  z1.1) else ((f165 x0 x1 x2 x3 x4 x5 z1.1).bind fun z4 => if z4.2 = 0 then (f131_22  z4.1) else ((hk_R x0 8).bind fun a7 => (hk_R x0 5).bind fun a10 => (f26 a7 a10 x1 x2 x3 x4 x5 z4.1).bind fun z13 => if x6 = 0 then ((hk_R x0 8).bind fun a16 => (hk_R x0 8).bind fun a19 => (hk_R a19 5).bind fun a22 => (f34 a16 a22 z13.1).bind fun z24 => (f285 z24.2 z24.1).bind fun z26 => f131_74 z26.2 z26.1) else ((hk_R x0 8).bind fun a28 => f131_74 (z13.1.1 a28 7) z13.1)))
set_option maxRecDepth 20000 in
theorem s131 {sc : Option (Nat × (Nat → Int32))} {x0 : Nat} {x1 : Int32} {x2 : Int32} {x3 : Int32} {x4 : Int32} {x5 : Int32} {x6 : Int32} {s : xS} {r : xS × Int32} (h : f131 x0 x1 x2 x3 x4 x5 x6 s = some r) : Cl sc 5 131 [.ref x0, .int x1, .int x2, .int x3, .int x4, .int x5, .int x6] (hk_of s) (hk_of r.1, some (.int r.2)) := by
  unfold f131 at h
  obtain ⟨k0, h⟩ := ifg_some h
  refine ⟨pg_md 131, [some (.ref x0), some (.int x1), some (.int x2), some (.int x3), some (.int x4), some (.int x5), some (.int x6)], pg_mt_md (by decide), (hk_rcv k0), rfl, ?_⟩
  generalize ho : ((hk_of r.1, some (Value.int r.2)) : xH × Option Value) = o
  have hr : dn131 o r := ho.symm
  refine E_blk rfl ?_
  refine E_ps 1 (pc' := 2) (l' := [some (.ref x0), some (.int x1), some (.int x2), some (.int x3), some (.int x4), some (.int x5), some (.int x6)]) (st' := [.int x6]) rfl ?_
  obtain ⟨z1, e2, h⟩ := Option.bind_eq_some_iff.mp h
  refine E_callI (vs := [.int x6]) (rest := []) rfl (by decide) rfl rfl (Nat.le_of_ble_eq_true rfl) (s166 e2) (by decide) ?_
  by_cases c3 : z1.2 = 0
  · rw [if_pos c3] at h
    refine E_jt rfl rfl c3 ?_
    exact E_wk (l' := [none, none, none, none, none, none, none]) trivial (s131_22  h hr)
  · rw [if_neg c3] at h
    refine E_jf rfl rfl c3 ?_
    refine E_blk rfl ?_
    refine E_ps 6 (pc' := 16) (l' := [some (.ref x0), some (.int x1), some (.int x2), some (.int x3), some (.int x4), some (.int x5), some (.int x6)]) (st' := [.int x5, .int x4, .int x3, .int x2, .int x1, .ref x0]) rfl ?_
    obtain ⟨z4, e5, h⟩ := Option.bind_eq_some_iff.mp h
    refine E_callI (vs := [.ref x0, .int x1, .int x2, .int x3, .int x4, .int x5]) (rest := []) rfl (by decide) rfl rfl (Nat.le_of_ble_eq_true rfl) (s165 e5) (by decide) ?_
    by_cases c6 : z4.2 = 0
    · rw [if_pos c6] at h
      refine E_jt rfl rfl c6 ?_
      exact E_wk (l' := [none, none, none, none, none, none, none]) trivial (s131_22  h hr)
    · rw [if_neg c6] at h
      refine E_jf rfl rfl c6 ?_
      refine E_blk rfl ?_
      refine E_ps 1 (pc' := 25) (l' := [some (.ref x0), some (.int x1), some (.int x2), some (.int x3), some (.int x4), some (.int x5), some (.int x6)]) (st' := [.ref x0]) rfl ?_
      obtain ⟨a7, e8, h⟩ := Option.bind_eq_some_iff.mp h
      refine E_gr k0 (by decide) rfl e8 ?_
      have kf9 : oK a7 3 = true := hk_rty k0 e8 rfl (by decide)
      refine E_ps 1 (pc' := 29) (l' := [some (.ref x0), some (.int x1), some (.int x2), some (.int x3), some (.int x4), some (.int x5), some (.int x6)]) (st' := [.ref x0, .ref a7]) rfl ?_
      obtain ⟨a10, e11, h⟩ := Option.bind_eq_some_iff.mp h
      refine E_gr k0 (by decide) rfl e11 ?_
      have kf12 : oK a10 0 = true := hk_rty k0 e11 rfl (by decide)
      refine E_ps 5 (pc' := 39) (l' := [some (.ref x0), some (.int x1), some (.int x2), some (.int x3), some (.int x4), some (.int x5), some (.int x6)]) (st' := [.int x5, .int x4, .int x3, .int x2, .int x1, .ref a10, .ref a7]) rfl ?_
      obtain ⟨z13, e14, h⟩ := Option.bind_eq_some_iff.mp h
      refine E_callV (vs := [.ref a7, .ref a10, .int x1, .int x2, .int x3, .int x4, .int x5]) (rest := []) rfl (by decide) rfl rfl (Nat.le_of_ble_eq_true rfl) (s26 e14) (by decide) ?_
      refine E_ps 1 (pc' := 44) (l' := [some (.ref x0), some (.int x1), some (.int x2), some (.int x3), some (.int x4), some (.int x5), some (.int x6)]) (st' := [.int x6]) rfl ?_
      by_cases c15 : x6 = 0
      · rw [if_pos c15] at h
        refine E_jt rfl rfl c15 ?_
        refine E_blk rfl ?_
        refine E_ps 1 (pc' := 48) (l' := [some (.ref x0), some (.int x1), some (.int x2), some (.int x3), some (.int x4), some (.int x5), some (.int x6)]) (st' := [.ref x0]) rfl ?_
        obtain ⟨a16, e17, h⟩ := Option.bind_eq_some_iff.mp h
        refine E_gr k0 (by decide) rfl e17 ?_
        have kf18 : oK a16 3 = true := hk_rty k0 e17 rfl (by decide)
        refine E_ps 1 (pc' := 52) (l' := [some (.ref x0), some (.int x1), some (.int x2), some (.int x3), some (.int x4), some (.int x5), some (.int x6)]) (st' := [.ref x0, .ref a16]) rfl ?_
        obtain ⟨a19, e20, h⟩ := Option.bind_eq_some_iff.mp h
        refine E_gr k0 (by decide) rfl e20 ?_
        have kf21 : oK a19 3 = true := hk_rty k0 e20 rfl (by decide)
        obtain ⟨a22, e23, h⟩ := Option.bind_eq_some_iff.mp h
        refine E_gr kf21 (by decide) rfl e23 ?_
        obtain ⟨z24, e25, h⟩ := Option.bind_eq_some_iff.mp h
        refine E_callI (vs := [.ref a16, .ref a22]) (rest := []) rfl (by decide) rfl rfl (Nat.le_of_ble_eq_true rfl) (s34 e25) (by decide) ?_
        obtain ⟨z26, e27, h⟩ := Option.bind_eq_some_iff.mp h
        refine E_callI (vs := [.int z24.2]) (rest := []) rfl (by decide) rfl rfl (Nat.le_of_ble_eq_true rfl) (s285 e27) (by decide) ?_
        refine E_j rfl rfl ?_
        exact E_wk (l' := [none, none, none, none, none, none, none]) trivial (s131_74  h hr)
      · rw [if_neg c15] at h
        refine E_jf rfl rfl c15 ?_
        refine E_blk rfl ?_
        refine E_ps 1 (pc' := 68) (l' := [some (.ref x0), some (.int x1), some (.int x2), some (.int x3), some (.int x4), some (.int x5), some (.int x6)]) (st' := [.ref x0]) rfl ?_
        obtain ⟨a28, e29, h⟩ := Option.bind_eq_some_iff.mp h
        refine E_gr k0 (by decide) rfl e29 ?_
        have kf30 : oK a28 3 = true := hk_rty k0 e29 rfl (by decide)
        refine E_gi kf30 (by decide) rfl ?_
        exact E_wk (l' := [none, none, none, none, none, none, none]) trivial (s131_74  h hr)

-- 132: ThreePlates.gap(IIIIIII)I
def dn132 (o : xH × Option Value) (r : xS × Int32) : Prop := o = (hk_of r.1, some (.int r.2))
noncomputable def f132_35  (s : xS) : Option (xS × Int32) := some (s, (-1 : Int32))
set_option maxRecDepth 20000 in
theorem s132_35 {sc : Option (Nat × (Nat → Int32))}  {s : xS} {o : xH × Option Value} {r : (xS × Int32)}  (h : f132_35  s = some r) (hr : dn132 o r) : Ev sc 5 132 [] 35 [none, none, none, none, none, none, none, none, none] [] (hk_of s) o := by
  unfold f132_35 at h
  refine E_blk rfl ?_
  refine E_ps 1 (pc' := 36) (l' := [none, none, none, none, none, none, none, none, none]) (st' := [.int (-1 : Int32)]) rfl ?_
  cases h
  exact E_ret rfl (pg_mt_md (by decide)) rfl hr
noncomputable def f132 (x0 : Nat) (x1 : Int32) (x2 : Int32) (x3 : Int32) (x4 : Int32) (x5 : Int32) (x6 : Int32) (x7 : Int32) (s : xS) : Option (xS × Int32) := ifg (oK x0 11 = true) <| (f166 x7 s).bind fun z1 => if z1.2 = 0 then (f132_35  z1.1) else ((f165 x0 x1 x2 x3 x4 x5 z1.1).bind fun z4 => if z4.2 = 0 then (f132_35  z4.1) else ((hk_R x0 1).bind fun a7 => (f67 a7 x1 x6 z4.1).bind fun z10 => if z10.2 = 0 then (f132_35  z10.1) else ((hk_R x0 8).bind fun a13 => (hk_R x0 5).bind fun a16 => (f26 a13 a16 x1 x2 x3 x4 x5 z10.1).bind fun z19 => (hk_R x0 8).bind fun a21 => (f33 a21 x6 z19.1).bind fun z24 => if z24.2 = (-1 : Int32) then (some (z24.1, (-1 : Int32))) else ((hk_R x0 8).bind fun a27 => (hk_R a27 1).bind fun a30 => (hk_R a30 4).bind fun a33 => (aI z24.1 a33 z24.2).bind fun v35 => (hk_R x0 8).bind fun a37 => (hk_R a37 1).bind fun a40 => (f171 v35.toInt64 (z24.1.1 a40 11).toInt64 x7 z24.1).bind fun z43 => some (z43.1, (z43.2).toInt32)))))
set_option maxRecDepth 20000 in
theorem s132 {sc : Option (Nat × (Nat → Int32))} {x0 : Nat} {x1 : Int32} {x2 : Int32} {x3 : Int32} {x4 : Int32} {x5 : Int32} {x6 : Int32} {x7 : Int32} {s : xS} {r : xS × Int32} (h : f132 x0 x1 x2 x3 x4 x5 x6 x7 s = some r) : Cl sc 5 132 [.ref x0, .int x1, .int x2, .int x3, .int x4, .int x5, .int x6, .int x7] (hk_of s) (hk_of r.1, some (.int r.2)) := by
  unfold f132 at h
  obtain ⟨k0, h⟩ := ifg_some h
  refine ⟨pg_md 132, [some (.ref x0), some (.int x1), some (.int x2), some (.int x3), some (.int x4), some (.int x5), some (.int x6), some (.int x7), none], pg_mt_md (by decide), (hk_rcv k0), rfl, ?_⟩
  generalize ho : ((hk_of r.1, some (Value.int r.2)) : xH × Option Value) = o
  have hr : dn132 o r := ho.symm
  refine E_blk rfl ?_
  refine E_ps 1 (pc' := 2) (l' := [some (.ref x0), some (.int x1), some (.int x2), some (.int x3), some (.int x4), some (.int x5), some (.int x6), some (.int x7), none]) (st' := [.int x7]) rfl ?_
  obtain ⟨z1, e2, h⟩ := Option.bind_eq_some_iff.mp h
  refine E_callI (vs := [.int x7]) (rest := []) rfl (by decide) rfl rfl (Nat.le_of_ble_eq_true rfl) (s166 e2) (by decide) ?_
  by_cases c3 : z1.2 = 0
  · rw [if_pos c3] at h
    refine E_jt rfl rfl c3 ?_
    exact E_wk (l' := [none, none, none, none, none, none, none, none, none]) trivial (s132_35  h hr)
  · rw [if_neg c3] at h
    refine E_jf rfl rfl c3 ?_
    refine E_blk rfl ?_
    refine E_ps 6 (pc' := 16) (l' := [some (.ref x0), some (.int x1), some (.int x2), some (.int x3), some (.int x4), some (.int x5), some (.int x6), some (.int x7), none]) (st' := [.int x5, .int x4, .int x3, .int x2, .int x1, .ref x0]) rfl ?_
    obtain ⟨z4, e5, h⟩ := Option.bind_eq_some_iff.mp h
    refine E_callI (vs := [.ref x0, .int x1, .int x2, .int x3, .int x4, .int x5]) (rest := []) rfl (by decide) rfl rfl (Nat.le_of_ble_eq_true rfl) (s165 e5) (by decide) ?_
    by_cases c6 : z4.2 = 0
    · rw [if_pos c6] at h
      refine E_jt rfl rfl c6 ?_
      exact E_wk (l' := [none, none, none, none, none, none, none, none, none]) trivial (s132_35  h hr)
    · rw [if_neg c6] at h
      refine E_jf rfl rfl c6 ?_
      refine E_blk rfl ?_
      refine E_ps 1 (pc' := 23) (l' := [some (.ref x0), some (.int x1), some (.int x2), some (.int x3), some (.int x4), some (.int x5), some (.int x6), some (.int x7), none]) (st' := [.ref x0]) rfl ?_
      obtain ⟨a7, e8, h⟩ := Option.bind_eq_some_iff.mp h
      refine E_gr k0 (by decide) rfl e8 ?_
      have kf9 : oK a7 7 = true := hk_rty k0 e8 rfl (by decide)
      refine E_ps 2 (pc' := 29) (l' := [some (.ref x0), some (.int x1), some (.int x2), some (.int x3), some (.int x4), some (.int x5), some (.int x6), some (.int x7), none]) (st' := [.int x6, .int x1, .ref a7]) rfl ?_
      obtain ⟨z10, e11, h⟩ := Option.bind_eq_some_iff.mp h
      refine E_callI (vs := [.ref a7, .int x1, .int x6]) (rest := []) rfl (by decide) rfl rfl (Nat.le_of_ble_eq_true rfl) (s67 e11) (by decide) ?_
      by_cases c12 : z10.2 = 0
      · rw [if_pos c12] at h
        refine E_jt rfl rfl c12 ?_
        exact E_wk (l' := [none, none, none, none, none, none, none, none, none]) trivial (s132_35  h hr)
      · rw [if_neg c12] at h
        refine E_jf rfl rfl c12 ?_
        refine E_blk rfl ?_
        refine E_ps 1 (pc' := 38) (l' := [some (.ref x0), some (.int x1), some (.int x2), some (.int x3), some (.int x4), some (.int x5), some (.int x6), some (.int x7), none]) (st' := [.ref x0]) rfl ?_
        obtain ⟨a13, e14, h⟩ := Option.bind_eq_some_iff.mp h
        refine E_gr k0 (by decide) rfl e14 ?_
        have kf15 : oK a13 3 = true := hk_rty k0 e14 rfl (by decide)
        refine E_ps 1 (pc' := 42) (l' := [some (.ref x0), some (.int x1), some (.int x2), some (.int x3), some (.int x4), some (.int x5), some (.int x6), some (.int x7), none]) (st' := [.ref x0, .ref a13]) rfl ?_
        obtain ⟨a16, e17, h⟩ := Option.bind_eq_some_iff.mp h
        refine E_gr k0 (by decide) rfl e17 ?_
        have kf18 : oK a16 0 = true := hk_rty k0 e17 rfl (by decide)
        refine E_ps 5 (pc' := 52) (l' := [some (.ref x0), some (.int x1), some (.int x2), some (.int x3), some (.int x4), some (.int x5), some (.int x6), some (.int x7), none]) (st' := [.int x5, .int x4, .int x3, .int x2, .int x1, .ref a16, .ref a13]) rfl ?_
        obtain ⟨z19, e20, h⟩ := Option.bind_eq_some_iff.mp h
        refine E_callV (vs := [.ref a13, .ref a16, .int x1, .int x2, .int x3, .int x4, .int x5]) (rest := []) rfl (by decide) rfl rfl (Nat.le_of_ble_eq_true rfl) (s26 e20) (by decide) ?_
        refine E_ps 1 (pc' := 56) (l' := [some (.ref x0), some (.int x1), some (.int x2), some (.int x3), some (.int x4), some (.int x5), some (.int x6), some (.int x7), none]) (st' := [.ref x0]) rfl ?_
        obtain ⟨a21, e22, h⟩ := Option.bind_eq_some_iff.mp h
        refine E_gr k0 (by decide) rfl e22 ?_
        have kf23 : oK a21 3 = true := hk_rty k0 e22 rfl (by decide)
        refine E_ps 1 (pc' := 61) (l' := [some (.ref x0), some (.int x1), some (.int x2), some (.int x3), some (.int x4), some (.int x5), some (.int x6), some (.int x7), none]) (st' := [.int x6, .ref a21]) rfl ?_
        obtain ⟨z24, e25, h⟩ := Option.bind_eq_some_iff.mp h
        refine E_callI (vs := [.ref a21, .int x6]) (rest := []) rfl (by decide) rfl rfl (Nat.le_of_ble_eq_true rfl) (s33 e25) (by decide) ?_
        refine E_ps 3 (pc' := 69) (l' := [some (.ref x0), some (.int x1), some (.int x2), some (.int x3), some (.int x4), some (.int x5), some (.int x6), some (.int x7), some (.int z24.2)]) (st' := [.int (-1 : Int32), .int z24.2]) rfl ?_
        by_cases c26 : z24.2 = (-1 : Int32)
        · rw [if_pos c26] at h
          refine E_jt rfl rfl c26 ?_
          refine E_blk rfl ?_
          refine E_ps 1 (pc' := 73) (l' := [some (.ref x0), some (.int x1), some (.int x2), some (.int x3), some (.int x4), some (.int x5), some (.int x6), some (.int x7), some (.int z24.2)]) (st' := [.int (-1 : Int32)]) rfl ?_
          cases h
          exact E_ret rfl (pg_mt_md (by decide)) rfl hr
        · rw [if_neg c26] at h
          refine E_jf rfl rfl c26 ?_
          refine E_blk rfl ?_
          refine E_ps 1 (pc' := 75) (l' := [some (.ref x0), some (.int x1), some (.int x2), some (.int x3), some (.int x4), some (.int x5), some (.int x6), some (.int x7), some (.int z24.2)]) (st' := [.ref x0]) rfl ?_
          obtain ⟨a27, e28, h⟩ := Option.bind_eq_some_iff.mp h
          refine E_gr k0 (by decide) rfl e28 ?_
          have kf29 : oK a27 3 = true := hk_rty k0 e28 rfl (by decide)
          obtain ⟨a30, e31, h⟩ := Option.bind_eq_some_iff.mp h
          refine E_gr kf29 (by decide) rfl e31 ?_
          have kf32 : oK a30 5 = true := hk_rty kf29 e31 rfl (by decide)
          obtain ⟨a33, e34, h⟩ := Option.bind_eq_some_iff.mp h
          refine E_gr kf32 (by decide) rfl e34 ?_
          refine E_ps 1 (pc' := 86) (l' := [some (.ref x0), some (.int x1), some (.int x2), some (.int x3), some (.int x4), some (.int x5), some (.int x6), some (.int x7), some (.int z24.2)]) (st' := [.int z24.2, .ref a33]) rfl ?_
          obtain ⟨v35, e36, h⟩ := Option.bind_eq_some_iff.mp h
          refine E_ai e36 ?_
          refine E_ps 2 (pc' := 89) (l' := [some (.ref x0), some (.int x1), some (.int x2), some (.int x3), some (.int x4), some (.int x5), some (.int x6), some (.int x7), some (.int z24.2)]) (st' := [.ref x0, .long v35.toInt64]) rfl ?_
          obtain ⟨a37, e38, h⟩ := Option.bind_eq_some_iff.mp h
          refine E_gr k0 (by decide) rfl e38 ?_
          have kf39 : oK a37 3 = true := hk_rty k0 e38 rfl (by decide)
          obtain ⟨a40, e41, h⟩ := Option.bind_eq_some_iff.mp h
          refine E_gr kf39 (by decide) rfl e41 ?_
          have kf42 : oK a40 5 = true := hk_rty kf39 e41 rfl (by decide)
          refine E_gi kf42 (by decide) rfl ?_
          refine E_ps 2 (pc' := 101) (l' := [some (.ref x0), some (.int x1), some (.int x2), some (.int x3), some (.int x4), some (.int x5), some (.int x6), some (.int x7), some (.int z24.2)]) (st' := [.int x7, .long (z24.1.1 a40 11).toInt64, .long v35.toInt64]) rfl ?_
          obtain ⟨z43, e44, h⟩ := Option.bind_eq_some_iff.mp h
          refine E_callL (vs := [.long v35.toInt64, .long (z24.1.1 a40 11).toInt64, .int x7]) (rest := []) rfl (by decide) rfl rfl (Nat.le_of_ble_eq_true rfl) (s171 e44) (by decide) ?_
          refine E_ps 1 (pc' := 105) (l' := [some (.ref x0), some (.int x1), some (.int x2), some (.int x3), some (.int x4), some (.int x5), some (.int x6), some (.int x7), some (.int z24.2)]) (st' := [.int (z43.2).toInt32]) rfl ?_
          cases h
          exact E_ret rfl (pg_mt_md (by decide)) rfl hr

-- 133: ThreePlates.air(IIIIII)J
def dn133 (o : xH × Option Value) (r : xS × Int64) : Prop := o = (hk_of r.1, some (.long r.2))
noncomputable def f133_22  (s : xS) : Option (xS × Int64) := some (s, (-1 : Int64))
set_option maxRecDepth 20000 in
theorem s133_22 {sc : Option (Nat × (Nat → Int32))}  {s : xS} {o : xH × Option Value} {r : (xS × Int64)}  (h : f133_22  s = some r) (hr : dn133 o r) : Ev sc 5 133 [] 22 [none, none, none, none, none, none, none] [] (hk_of s) o := by
  unfold f133_22 at h
  refine E_blk rfl ?_
  refine E_ps 1 (pc' := 25) (l' := [none, none, none, none, none, none, none]) (st' := [.long (-1 : Int64)]) rfl ?_
  cases h
  exact E_ret rfl (pg_mt_md (by decide)) rfl hr
noncomputable def f133 (x0 : Nat) (x1 : Int32) (x2 : Int32) (x3 : Int32) (x4 : Int32) (x5 : Int32) (x6 : Int32) (s : xS) : Option (xS × Int64) := ifg (oK x0 11 = true) <| (f166 x6 s).bind fun z1 => if z1.2 = 0 then (f133_22  z1.1) else ((f165 x0 x1 x2 x3 x4 x5 z1.1).bind fun z4 => if z4.2 = 0 then (f133_22  z4.1) else ((hk_R x0 8).bind fun a7 => (hk_R x0 5).bind fun a10 => (f26 a7 a10 x1 x2 x3 x4 x5 z4.1).bind fun z13 => (hk_R x0 8).bind fun a15 => (hk_R a15 1).bind fun a18 => (f47 a18 z13.1).bind fun z21 => (hk_R x0 8).bind fun a23 => (hk_R a23 1).bind fun a26 => (f171 z21.2 (z21.1.1 a26 11).toInt64 x6 z21.1).bind fun z29 => some (z29.1, z29.2)))
set_option maxRecDepth 20000 in
theorem s133 {sc : Option (Nat × (Nat → Int32))} {x0 : Nat} {x1 : Int32} {x2 : Int32} {x3 : Int32} {x4 : Int32} {x5 : Int32} {x6 : Int32} {s : xS} {r : xS × Int64} (h : f133 x0 x1 x2 x3 x4 x5 x6 s = some r) : Cl sc 5 133 [.ref x0, .int x1, .int x2, .int x3, .int x4, .int x5, .int x6] (hk_of s) (hk_of r.1, some (.long r.2)) := by
  unfold f133 at h
  obtain ⟨k0, h⟩ := ifg_some h
  refine ⟨pg_md 133, [some (.ref x0), some (.int x1), some (.int x2), some (.int x3), some (.int x4), some (.int x5), some (.int x6)], pg_mt_md (by decide), (hk_rcv k0), rfl, ?_⟩
  generalize ho : ((hk_of r.1, some (Value.long r.2)) : xH × Option Value) = o
  have hr : dn133 o r := ho.symm
  refine E_blk rfl ?_
  refine E_ps 1 (pc' := 2) (l' := [some (.ref x0), some (.int x1), some (.int x2), some (.int x3), some (.int x4), some (.int x5), some (.int x6)]) (st' := [.int x6]) rfl ?_
  obtain ⟨z1, e2, h⟩ := Option.bind_eq_some_iff.mp h
  refine E_callI (vs := [.int x6]) (rest := []) rfl (by decide) rfl rfl (Nat.le_of_ble_eq_true rfl) (s166 e2) (by decide) ?_
  by_cases c3 : z1.2 = 0
  · rw [if_pos c3] at h
    refine E_jt rfl rfl c3 ?_
    exact E_wk (l' := [none, none, none, none, none, none, none]) trivial (s133_22  h hr)
  · rw [if_neg c3] at h
    refine E_jf rfl rfl c3 ?_
    refine E_blk rfl ?_
    refine E_ps 6 (pc' := 16) (l' := [some (.ref x0), some (.int x1), some (.int x2), some (.int x3), some (.int x4), some (.int x5), some (.int x6)]) (st' := [.int x5, .int x4, .int x3, .int x2, .int x1, .ref x0]) rfl ?_
    obtain ⟨z4, e5, h⟩ := Option.bind_eq_some_iff.mp h
    refine E_callI (vs := [.ref x0, .int x1, .int x2, .int x3, .int x4, .int x5]) (rest := []) rfl (by decide) rfl rfl (Nat.le_of_ble_eq_true rfl) (s165 e5) (by decide) ?_
    by_cases c6 : z4.2 = 0
    · rw [if_pos c6] at h
      refine E_jt rfl rfl c6 ?_
      exact E_wk (l' := [none, none, none, none, none, none, none]) trivial (s133_22  h hr)
    · rw [if_neg c6] at h
      refine E_jf rfl rfl c6 ?_
      refine E_blk rfl ?_
      refine E_ps 1 (pc' := 27) (l' := [some (.ref x0), some (.int x1), some (.int x2), some (.int x3), some (.int x4), some (.int x5), some (.int x6)]) (st' := [.ref x0]) rfl ?_
      obtain ⟨a7, e8, h⟩ := Option.bind_eq_some_iff.mp h
      refine E_gr k0 (by decide) rfl e8 ?_
      have kf9 : oK a7 3 = true := hk_rty k0 e8 rfl (by decide)
      refine E_ps 1 (pc' := 31) (l' := [some (.ref x0), some (.int x1), some (.int x2), some (.int x3), some (.int x4), some (.int x5), some (.int x6)]) (st' := [.ref x0, .ref a7]) rfl ?_
      obtain ⟨a10, e11, h⟩ := Option.bind_eq_some_iff.mp h
      refine E_gr k0 (by decide) rfl e11 ?_
      have kf12 : oK a10 0 = true := hk_rty k0 e11 rfl (by decide)
      refine E_ps 5 (pc' := 41) (l' := [some (.ref x0), some (.int x1), some (.int x2), some (.int x3), some (.int x4), some (.int x5), some (.int x6)]) (st' := [.int x5, .int x4, .int x3, .int x2, .int x1, .ref a10, .ref a7]) rfl ?_
      obtain ⟨z13, e14, h⟩ := Option.bind_eq_some_iff.mp h
      refine E_callV (vs := [.ref a7, .ref a10, .int x1, .int x2, .int x3, .int x4, .int x5]) (rest := []) rfl (by decide) rfl rfl (Nat.le_of_ble_eq_true rfl) (s26 e14) (by decide) ?_
      refine E_ps 1 (pc' := 45) (l' := [some (.ref x0), some (.int x1), some (.int x2), some (.int x3), some (.int x4), some (.int x5), some (.int x6)]) (st' := [.ref x0]) rfl ?_
      obtain ⟨a15, e16, h⟩ := Option.bind_eq_some_iff.mp h
      refine E_gr k0 (by decide) rfl e16 ?_
      have kf17 : oK a15 3 = true := hk_rty k0 e16 rfl (by decide)
      obtain ⟨a18, e19, h⟩ := Option.bind_eq_some_iff.mp h
      refine E_gr kf17 (by decide) rfl e19 ?_
      have kf20 : oK a18 5 = true := hk_rty kf17 e19 rfl (by decide)
      obtain ⟨z21, e22, h⟩ := Option.bind_eq_some_iff.mp h
      refine E_callL (vs := [.ref a18]) (rest := []) rfl (by decide) rfl rfl (Nat.le_of_ble_eq_true rfl) (s47 e22) (by decide) ?_
      refine E_ps 1 (pc' := 55) (l' := [some (.ref x0), some (.int x1), some (.int x2), some (.int x3), some (.int x4), some (.int x5), some (.int x6)]) (st' := [.ref x0, .long z21.2]) rfl ?_
      obtain ⟨a23, e24, h⟩ := Option.bind_eq_some_iff.mp h
      refine E_gr k0 (by decide) rfl e24 ?_
      have kf25 : oK a23 3 = true := hk_rty k0 e24 rfl (by decide)
      obtain ⟨a26, e27, h⟩ := Option.bind_eq_some_iff.mp h
      refine E_gr kf25 (by decide) rfl e27 ?_
      have kf28 : oK a26 5 = true := hk_rty kf25 e27 rfl (by decide)
      refine E_gi kf28 (by decide) rfl ?_
      refine E_ps 2 (pc' := 67) (l' := [some (.ref x0), some (.int x1), some (.int x2), some (.int x3), some (.int x4), some (.int x5), some (.int x6)]) (st' := [.int x6, .long (z21.1.1 a26 11).toInt64, .long z21.2]) rfl ?_
      obtain ⟨z29, e30, h⟩ := Option.bind_eq_some_iff.mp h
      refine E_callL (vs := [.long z21.2, .long (z21.1.1 a26 11).toInt64, .int x6]) (rest := []) rfl (by decide) rfl rfl (Nat.le_of_ble_eq_true rfl) (s171 e30) (by decide) ?_
      cases h
      exact E_ret rfl (pg_mt_md (by decide)) rfl hr

-- 134: ThreePlates.lift(IIIIII)I
def dn134 (o : xH × Option Value) (r : xS × Int32) : Prop := o = (hk_of r.1, some (.int r.2))
noncomputable def f134_62 (y0 : Int32) (s : xS) : Option (xS × Int32) := some (s, y0)
set_option maxRecDepth 20000 in
theorem s134_62 {sc : Option (Nat × (Nat → Int32))} {y0 : Int32} {s : xS} {o : xH × Option Value} {r : (xS × Int32)}  (h : f134_62 y0 s = some r) (hr : dn134 o r) : Ev sc 5 134 [] 62 [none, none, none, none, none, none, none] [.int y0] (hk_of s) o := by
  unfold f134_62 at h
  refine E_blk rfl ?_
  cases h
  exact E_ret rfl (pg_mt_md (by decide)) rfl hr
noncomputable def f134_22  (s : xS) : Option (xS × Int32) := some (s, (-1 : Int32))
set_option maxRecDepth 20000 in
theorem s134_22 {sc : Option (Nat × (Nat → Int32))}  {s : xS} {o : xH × Option Value} {r : (xS × Int32)}  (h : f134_22  s = some r) (hr : dn134 o r) : Ev sc 5 134 [] 22 [none, none, none, none, none, none, none] [] (hk_of s) o := by
  unfold f134_22 at h
  refine E_blk rfl ?_
  refine E_ps 1 (pc' := 23) (l' := [none, none, none, none, none, none, none]) (st' := [.int (-1 : Int32)]) rfl ?_
  cases h
  exact E_ret rfl (pg_mt_md (by decide)) rfl hr
noncomputable def f134 (x0 : Nat) (x1 : Int32) (x2 : Int32) (x3 : Int32) (x4 : Int32) (x5 : Int32) (x6 : Int32) (s : xS) : Option (xS × Int32) := ifg (oK x0 11 = true) <| (f167 x6 s).bind fun z1 => if z1.2 = 0 then (f134_22  z1.1) else ((f165 x0 x1 x2 x3 x4 x5 z1.1).bind fun z4 => if z4.2 = 0 then (f134_22  z4.1) else ((hk_R x0 8).bind fun a7 => (hk_R x0 5).bind fun a10 => (f26 a7 a10 x1 x2 x3 x4 x5 z4.1).bind fun z13 => (hk_R x0 8).bind fun a15 => (hk_R a15 1).bind fun a18 => (f48 a18 x6 z13.1).bind fun z21 => if z21.2 = 0 then (f134_62 (0 : Int32) z21.1) else (f134_62 (1 : Int32) z21.1)))
set_option maxRecDepth 20000 in
theorem s134 {sc : Option (Nat × (Nat → Int32))} {x0 : Nat} {x1 : Int32} {x2 : Int32} {x3 : Int32} {x4 : Int32} {x5 : Int32} {x6 : Int32} {s : xS} {r : xS × Int32} (h : f134 x0 x1 x2 x3 x4 x5 x6 s = some r) : Cl sc 5 134 [.ref x0, .int x1, .int x2, .int x3, .int x4, .int x5, .int x6] (hk_of s) (hk_of r.1, some (.int r.2)) := by
  unfold f134 at h
  obtain ⟨k0, h⟩ := ifg_some h
  refine ⟨pg_md 134, [some (.ref x0), some (.int x1), some (.int x2), some (.int x3), some (.int x4), some (.int x5), some (.int x6)], pg_mt_md (by decide), (hk_rcv k0), rfl, ?_⟩
  generalize ho : ((hk_of r.1, some (Value.int r.2)) : xH × Option Value) = o
  have hr : dn134 o r := ho.symm
  refine E_blk rfl ?_
  refine E_ps 1 (pc' := 2) (l' := [some (.ref x0), some (.int x1), some (.int x2), some (.int x3), some (.int x4), some (.int x5), some (.int x6)]) (st' := [.int x6]) rfl ?_
  obtain ⟨z1, e2, h⟩ := Option.bind_eq_some_iff.mp h
  refine E_callI (vs := [.int x6]) (rest := []) rfl (by decide) rfl rfl (Nat.le_of_ble_eq_true rfl) (s167 e2) (by decide) ?_
  by_cases c3 : z1.2 = 0
  · rw [if_pos c3] at h
    refine E_jt rfl rfl c3 ?_
    exact E_wk (l' := [none, none, none, none, none, none, none]) trivial (s134_22  h hr)
  · rw [if_neg c3] at h
    refine E_jf rfl rfl c3 ?_
    refine E_blk rfl ?_
    refine E_ps 6 (pc' := 16) (l' := [some (.ref x0), some (.int x1), some (.int x2), some (.int x3), some (.int x4), some (.int x5), some (.int x6)]) (st' := [.int x5, .int x4, .int x3, .int x2, .int x1, .ref x0]) rfl ?_
    obtain ⟨z4, e5, h⟩ := Option.bind_eq_some_iff.mp h
    refine E_callI (vs := [.ref x0, .int x1, .int x2, .int x3, .int x4, .int x5]) (rest := []) rfl (by decide) rfl rfl (Nat.le_of_ble_eq_true rfl) (s165 e5) (by decide) ?_
    by_cases c6 : z4.2 = 0
    · rw [if_pos c6] at h
      refine E_jt rfl rfl c6 ?_
      exact E_wk (l' := [none, none, none, none, none, none, none]) trivial (s134_22  h hr)
    · rw [if_neg c6] at h
      refine E_jf rfl rfl c6 ?_
      refine E_blk rfl ?_
      refine E_ps 1 (pc' := 25) (l' := [some (.ref x0), some (.int x1), some (.int x2), some (.int x3), some (.int x4), some (.int x5), some (.int x6)]) (st' := [.ref x0]) rfl ?_
      obtain ⟨a7, e8, h⟩ := Option.bind_eq_some_iff.mp h
      refine E_gr k0 (by decide) rfl e8 ?_
      have kf9 : oK a7 3 = true := hk_rty k0 e8 rfl (by decide)
      refine E_ps 1 (pc' := 29) (l' := [some (.ref x0), some (.int x1), some (.int x2), some (.int x3), some (.int x4), some (.int x5), some (.int x6)]) (st' := [.ref x0, .ref a7]) rfl ?_
      obtain ⟨a10, e11, h⟩ := Option.bind_eq_some_iff.mp h
      refine E_gr k0 (by decide) rfl e11 ?_
      have kf12 : oK a10 0 = true := hk_rty k0 e11 rfl (by decide)
      refine E_ps 5 (pc' := 39) (l' := [some (.ref x0), some (.int x1), some (.int x2), some (.int x3), some (.int x4), some (.int x5), some (.int x6)]) (st' := [.int x5, .int x4, .int x3, .int x2, .int x1, .ref a10, .ref a7]) rfl ?_
      obtain ⟨z13, e14, h⟩ := Option.bind_eq_some_iff.mp h
      refine E_callV (vs := [.ref a7, .ref a10, .int x1, .int x2, .int x3, .int x4, .int x5]) (rest := []) rfl (by decide) rfl rfl (Nat.le_of_ble_eq_true rfl) (s26 e14) (by decide) ?_
      refine E_ps 1 (pc' := 43) (l' := [some (.ref x0), some (.int x1), some (.int x2), some (.int x3), some (.int x4), some (.int x5), some (.int x6)]) (st' := [.ref x0]) rfl ?_
      obtain ⟨a15, e16, h⟩ := Option.bind_eq_some_iff.mp h
      refine E_gr k0 (by decide) rfl e16 ?_
      have kf17 : oK a15 3 = true := hk_rty k0 e16 rfl (by decide)
      obtain ⟨a18, e19, h⟩ := Option.bind_eq_some_iff.mp h
      refine E_gr kf17 (by decide) rfl e19 ?_
      have kf20 : oK a18 5 = true := hk_rty kf17 e19 rfl (by decide)
      refine E_ps 1 (pc' := 51) (l' := [some (.ref x0), some (.int x1), some (.int x2), some (.int x3), some (.int x4), some (.int x5), some (.int x6)]) (st' := [.int x6, .ref a18]) rfl ?_
      obtain ⟨z21, e22, h⟩ := Option.bind_eq_some_iff.mp h
      refine E_callI (vs := [.ref a18, .int x6]) (rest := []) rfl (by decide) rfl rfl (Nat.le_of_ble_eq_true rfl) (s48 e22) (by decide) ?_
      by_cases c23 : z21.2 = 0
      · rw [if_pos c23] at h
        refine E_jt rfl rfl c23 ?_
        refine E_blk rfl ?_
        refine E_ps 1 (pc' := 62) (l' := [some (.ref x0), some (.int x1), some (.int x2), some (.int x3), some (.int x4), some (.int x5), some (.int x6)]) (st' := [.int (0 : Int32)]) rfl ?_
        exact E_wk (l' := [none, none, none, none, none, none, none]) trivial (s134_62  h hr)
      · rw [if_neg c23] at h
        refine E_jf rfl rfl c23 ?_
        refine E_blk rfl ?_
        refine E_ps 1 (pc' := 58) (l' := [some (.ref x0), some (.int x1), some (.int x2), some (.int x3), some (.int x4), some (.int x5), some (.int x6)]) (st' := [.int (1 : Int32)]) rfl ?_
        refine E_j rfl rfl ?_
        exact E_wk (l' := [none, none, none, none, none, none, none]) trivial (s134_62  h hr)

-- 135: ThreePlates.round(I)I
def dn135 (o : xH × Option Value) (r : xS × Int32) : Prop := o = (hk_of r.1, some (.int r.2))
noncomputable def f135 (x0 : Nat) (x1 : Int32) (s : xS) : Option (xS × Int32) := ifg (oK x0 11 = true) <| (hk_R x0 3).bind fun a1 => (f39 a1 x1 s).bind fun z4 => if z4.2 = 0 then (some (z4.1, (-1 : Int32))) else ((f164 x0 z4.1).bind fun z7 => (hk_R x0 8).bind fun a9 => (hk_R x0 5).bind fun a12 => (hk_R x0 3).bind fun a15 => (hk_R a15 0).bind fun a18 => (aR a18 x1).bind fun a20 => ifg (oK a20 6 = true) <| (f36 a9 a12 a20 z7.1).bind fun z23 => some (z23.1, z23.2))
set_option maxRecDepth 20000 in
theorem s135 {sc : Option (Nat × (Nat → Int32))} {x0 : Nat} {x1 : Int32} {s : xS} {r : xS × Int32} (h : f135 x0 x1 s = some r) : Cl sc 6 135 [.ref x0, .int x1] (hk_of s) (hk_of r.1, some (.int r.2)) := by
  unfold f135 at h
  obtain ⟨k0, h⟩ := ifg_some h
  refine ⟨pg_md 135, [some (.ref x0), some (.int x1)], pg_mt_md (by decide), (hk_rcv k0), rfl, ?_⟩
  generalize ho : ((hk_of r.1, some (Value.int r.2)) : xH × Option Value) = o
  have hr : dn135 o r := ho.symm
  refine E_blk rfl ?_
  refine E_ps 1 (pc' := 1) (l' := [some (.ref x0), some (.int x1)]) (st' := [.ref x0]) rfl ?_
  obtain ⟨a1, e2, h⟩ := Option.bind_eq_some_iff.mp h
  refine E_gr k0 (by decide) rfl e2 ?_
  have kf3 : oK a1 4 = true := hk_rty k0 e2 rfl (by decide)
  refine E_ps 1 (pc' := 5) (l' := [some (.ref x0), some (.int x1)]) (st' := [.int x1, .ref a1]) rfl ?_
  obtain ⟨z4, e5, h⟩ := Option.bind_eq_some_iff.mp h
  refine E_callI (vs := [.ref a1, .int x1]) (rest := []) rfl (by decide) rfl rfl (Nat.le_of_ble_eq_true rfl) (s39 e5) (by decide) ?_
  by_cases c6 : z4.2 = 0
  · rw [if_pos c6] at h
    refine E_jt rfl rfl c6 ?_
    refine E_blk rfl ?_
    refine E_ps 1 (pc' := 12) (l' := [some (.ref x0), some (.int x1)]) (st' := [.int (-1 : Int32)]) rfl ?_
    cases h
    exact E_ret rfl (pg_mt_md (by decide)) rfl hr
  · rw [if_neg c6] at h
    refine E_jf rfl rfl c6 ?_
    refine E_blk rfl ?_
    refine E_ps 1 (pc' := 14) (l' := [some (.ref x0), some (.int x1)]) (st' := [.ref x0]) rfl ?_
    obtain ⟨z7, e8, h⟩ := Option.bind_eq_some_iff.mp h
    refine E_callV (vs := [.ref x0]) (rest := []) rfl (by decide) rfl rfl (Nat.le_of_ble_eq_true rfl) (s164 e8) (by decide) ?_
    refine E_ps 1 (pc' := 18) (l' := [some (.ref x0), some (.int x1)]) (st' := [.ref x0]) rfl ?_
    obtain ⟨a9, e10, h⟩ := Option.bind_eq_some_iff.mp h
    refine E_gr k0 (by decide) rfl e10 ?_
    have kf11 : oK a9 3 = true := hk_rty k0 e10 rfl (by decide)
    refine E_ps 1 (pc' := 22) (l' := [some (.ref x0), some (.int x1)]) (st' := [.ref x0, .ref a9]) rfl ?_
    obtain ⟨a12, e13, h⟩ := Option.bind_eq_some_iff.mp h
    refine E_gr k0 (by decide) rfl e13 ?_
    have kf14 : oK a12 0 = true := hk_rty k0 e13 rfl (by decide)
    refine E_ps 1 (pc' := 26) (l' := [some (.ref x0), some (.int x1)]) (st' := [.ref x0, .ref a12, .ref a9]) rfl ?_
    obtain ⟨a15, e16, h⟩ := Option.bind_eq_some_iff.mp h
    refine E_gr k0 (by decide) rfl e16 ?_
    have kf17 : oK a15 4 = true := hk_rty k0 e16 rfl (by decide)
    obtain ⟨a18, e19, h⟩ := Option.bind_eq_some_iff.mp h
    refine E_gr kf17 (by decide) rfl e19 ?_
    refine E_ps 1 (pc' := 33) (l' := [some (.ref x0), some (.int x1)]) (st' := [.int x1, .ref a18, .ref a12, .ref a9]) rfl ?_
    obtain ⟨a20, e21, h⟩ := Option.bind_eq_some_iff.mp h
    refine E_ar e21 ?_
    obtain ⟨g22, h⟩ := ifg_some h
    obtain ⟨z23, e24, h⟩ := Option.bind_eq_some_iff.mp h
    refine E_callI (vs := [.ref a9, .ref a12, .ref a20]) (rest := []) rfl (by decide) rfl rfl (Nat.le_of_ble_eq_true rfl) (s36 e24) (by decide) ?_
    cases h
    exact E_ret rfl (pg_mt_md (by decide)) rfl hr

-- 136: ThreePlates.run(I)I
def dn136 (o : xH × Option Value) (r : xS × Int32) : Prop := o = (hk_of r.1, some (.int r.2))
def dn136_29 (sc : Option (Nat × (Nat → Int32))) (x0 : Nat) (x1 : Int32) (o : xH × Option Value) (r : ((Int32 × xS) ⊕ (xS × Int32))) : Prop := match r with
  | .inl q => Ev sc 6 136 [] 29 [some (.ref x0), some (.int x1), some (.int q.1)] [] (hk_of q.2) o
  | .inr r => dn136 o r
noncomputable def f136_29 (x0 : Nat) (x1 : Int32) (x2 : Int32) (s : xS) : Option ((Int32 × xS) ⊕ (xS × Int32)) := if x1 ≤ x2 then (Option.map Sum.inr ((hk_R x0 5).bind fun a2 => some (s, (s.1 a2 3)))) else ((hk_R x0 8).bind fun a5 => (hk_R x0 5).bind fun a8 => (hk_R x0 3).bind fun a11 => (f40 a11 x2 s).bind fun z14 => ifg (oK z14.2 6 = true) <| (f36 a5 a8 z14.2 z14.1).bind fun z17 => some (Sum.inl ((x2 + (1 : Int32)), z17.1)))
set_option maxRecDepth 20000 in
theorem s136_29 {sc : Option (Nat × (Nat → Int32))} {x0 : Nat} {x1 : Int32} {x2 : Int32} {s : xS} {o : xH × Option Value} {r : ((Int32 × xS) ⊕ (xS × Int32))} (k0 : oK x0 11 = true) (h : f136_29 x0 x1 x2 s = some r) (hr : dn136_29 sc x0 x1 o r) : Ev sc 6 136 [] 29 [some (.ref x0), some (.int x1), some (.int x2)] [] (hk_of s) o := by
  unfold f136_29 at h
  refine E_blk rfl ?_
  refine E_ps 2 (pc' := 31) (l' := [some (.ref x0), some (.int x1), some (.int x2)]) (st' := [.int x1, .int x2]) rfl ?_
  by_cases c1 : x1 ≤ x2
  · rw [if_pos c1] at h
    refine E_jt rfl rfl c1 ?_
    obtain ⟨r, h, hr⟩ := lf_some (Dn := dn136_29 sc x0 x1 o) h hr
    refine E_blk rfl ?_
    refine E_ps 1 (pc' := 61) (l' := [some (.ref x0), some (.int x1), some (.int x2)]) (st' := [.ref x0]) rfl ?_
    obtain ⟨a2, e3, h⟩ := Option.bind_eq_some_iff.mp h
    refine E_gr k0 (by decide) rfl e3 ?_
    have kf4 : oK a2 0 = true := hk_rty k0 e3 rfl (by decide)
    refine E_gi kf4 (by decide) rfl ?_
    cases h
    exact E_ret rfl (pg_mt_md (by decide)) rfl hr
  · rw [if_neg c1] at h
    refine E_jf rfl rfl c1 ?_
    refine E_blk rfl ?_
    refine E_ps 1 (pc' := 35) (l' := [some (.ref x0), some (.int x1), some (.int x2)]) (st' := [.ref x0]) rfl ?_
    obtain ⟨a5, e6, h⟩ := Option.bind_eq_some_iff.mp h
    refine E_gr k0 (by decide) rfl e6 ?_
    have kf7 : oK a5 3 = true := hk_rty k0 e6 rfl (by decide)
    refine E_ps 1 (pc' := 39) (l' := [some (.ref x0), some (.int x1), some (.int x2)]) (st' := [.ref x0, .ref a5]) rfl ?_
    obtain ⟨a8, e9, h⟩ := Option.bind_eq_some_iff.mp h
    refine E_gr k0 (by decide) rfl e9 ?_
    have kf10 : oK a8 0 = true := hk_rty k0 e9 rfl (by decide)
    refine E_ps 1 (pc' := 43) (l' := [some (.ref x0), some (.int x1), some (.int x2)]) (st' := [.ref x0, .ref a8, .ref a5]) rfl ?_
    obtain ⟨a11, e12, h⟩ := Option.bind_eq_some_iff.mp h
    refine E_gr k0 (by decide) rfl e12 ?_
    have kf13 : oK a11 4 = true := hk_rty k0 e12 rfl (by decide)
    refine E_ps 1 (pc' := 47) (l' := [some (.ref x0), some (.int x1), some (.int x2)]) (st' := [.int x2, .ref a11, .ref a8, .ref a5]) rfl ?_
    obtain ⟨z14, e15, h⟩ := Option.bind_eq_some_iff.mp h
    refine E_callR (vs := [.ref a11, .int x2]) (rest := [.ref a8, .ref a5]) rfl (by decide) rfl rfl (Nat.le_of_ble_eq_true rfl) (s40 e15) (by decide) ?_
    obtain ⟨g16, h⟩ := ifg_some h
    obtain ⟨z17, e18, h⟩ := Option.bind_eq_some_iff.mp h
    refine E_callI (vs := [.ref a5, .ref a8, .ref z14.2]) (rest := []) rfl (by decide) rfl rfl (Nat.le_of_ble_eq_true rfl) (s36 e18) (by decide) ?_
    refine E_ps 2 (pc' := 57) (l' := [some (.ref x0), some (.int x1), some (.int (x2 + (1 : Int32)))]) (st' := []) rfl ?_
    refine E_j rfl rfl ?_
    cases h
    exact E_wk (l' := [some (.ref x0), some (.int x1), some (.int (x2 + (1 : Int32)))]) ⟨rfl, rfl, rfl, trivial⟩ hr
theorem s136_29_w {sc : Option (Nat × (Nat → Int32))} {x0 : Nat} {x1 : Int32} {x2 : Int32} {s : xS} {o : xH × Option Value} {r : (xS × Int32)} (k0 : oK x0 11 = true) (h : whl (fun q : (Int32 × xS) => f136_29 x0 x1 q.1 q.2) (x2, s) = some r) (hr : dn136 o r) : Ev sc 6 136 [] 29 [some (.ref x0), some (.int x1), some (.int x2)] [] (hk_of s) o := by
  refine whl_snd (E := fun q : (Int32 × xS) => Ev sc 6 136 [] 29 [some (.ref x0), some (.int x1), some (.int q.1)] [] (hk_of q.2) o) (P := fun r => dn136 o r) (fun q r h hr => ?_) h hr
  exact s136_29 k0 h (by cases r <;> exact hr)
noncomputable def f136_21  (s : xS) : Option (xS × Int32) := some (s, (-1 : Int32))
set_option maxRecDepth 20000 in
theorem s136_21 {sc : Option (Nat × (Nat → Int32))}  {s : xS} {o : xH × Option Value} {r : (xS × Int32)}  (h : f136_21  s = some r) (hr : dn136 o r) : Ev sc 6 136 [] 21 [none, none, none] [] (hk_of s) o := by
  unfold f136_21 at h
  refine E_blk rfl ?_
  refine E_ps 1 (pc' := 22) (l' := [none, none, none]) (st' := [.int (-1 : Int32)]) rfl ?_
  cases h
  exact E_ret rfl (pg_mt_md (by decide)) rfl hr
noncomputable def f136 (x0 : Nat) (x1 : Int32) (s : xS) : Option (xS × Int32) := ifg (oK x0 11 = true) <| if x1 < 0 then (f136_21  s) else (if (300 : Int32) < x1 then (f136_21  s) else ((hk_R x0 3).bind fun a3 => if (s.1 a3 1) = 0 then (f136_21  s) else ((f164 x0 s).bind fun z7 => whl (fun q : (Int32 × xS) => f136_29 x0 x1 q.1 q.2) ((0 : Int32), z7.1))))
set_option maxRecDepth 20000 in
theorem s136 {sc : Option (Nat × (Nat → Int32))} {x0 : Nat} {x1 : Int32} {s : xS} {r : xS × Int32} (h : f136 x0 x1 s = some r) : Cl sc 6 136 [.ref x0, .int x1] (hk_of s) (hk_of r.1, some (.int r.2)) := by
  unfold f136 at h
  obtain ⟨k0, h⟩ := ifg_some h
  refine ⟨pg_md 136, [some (.ref x0), some (.int x1), none], pg_mt_md (by decide), (hk_rcv k0), rfl, ?_⟩
  generalize ho : ((hk_of r.1, some (Value.int r.2)) : xH × Option Value) = o
  have hr : dn136 o r := ho.symm
  refine E_blk rfl ?_
  refine E_ps 1 (pc' := 1) (l' := [some (.ref x0), some (.int x1), none]) (st' := [.int x1]) rfl ?_
  by_cases c1 : x1 < 0
  · rw [if_pos c1] at h
    refine E_jt rfl rfl c1 ?_
    exact E_wk (l' := [none, none, none]) trivial (s136_21  h hr)
  · rw [if_neg c1] at h
    refine E_jf rfl rfl c1 ?_
    refine E_blk rfl ?_
    refine E_ps 2 (pc' := 8) (l' := [some (.ref x0), some (.int x1), none]) (st' := [.int (300 : Int32), .int x1]) rfl ?_
    by_cases c2 : (300 : Int32) < x1
    · rw [if_pos c2] at h
      refine E_jt rfl rfl c2 ?_
      exact E_wk (l' := [none, none, none]) trivial (s136_21  h hr)
    · rw [if_neg c2] at h
      refine E_jf rfl rfl c2 ?_
      refine E_blk rfl ?_
      refine E_ps 1 (pc' := 12) (l' := [some (.ref x0), some (.int x1), none]) (st' := [.ref x0]) rfl ?_
      obtain ⟨a3, e4, h⟩ := Option.bind_eq_some_iff.mp h
      refine E_gr k0 (by decide) rfl e4 ?_
      have kf5 : oK a3 4 = true := hk_rty k0 e4 rfl (by decide)
      refine E_gi kf5 (by decide) rfl ?_
      by_cases c6 : (s.1 a3 1) = 0
      · rw [if_pos c6] at h
        refine E_jt rfl rfl c6 ?_
        exact E_wk (l' := [none, none, none]) trivial (s136_21  h hr)
      · rw [if_neg c6] at h
        refine E_jf rfl rfl c6 ?_
        refine E_blk rfl ?_
        refine E_ps 1 (pc' := 24) (l' := [some (.ref x0), some (.int x1), none]) (st' := [.ref x0]) rfl ?_
        obtain ⟨z7, e8, h⟩ := Option.bind_eq_some_iff.mp h
        refine E_callV (vs := [.ref x0]) (rest := []) rfl (by decide) rfl rfl (Nat.le_of_ble_eq_true rfl) (s164 e8) (by decide) ?_
        refine E_ps 2 (pc' := 29) (l' := [some (.ref x0), some (.int x1), some (.int (0 : Int32))]) (st' := []) rfl ?_
        exact E_wk (l' := [some (.ref x0), some (.int x1), some (.int (0 : Int32))]) ⟨rfl, rfl, rfl, trivial⟩ (s136_29_w k0 h hr)

-- 137: ThreePlates.off(II)I
def dn137 (o : xH × Option Value) (r : xS × Int32) : Prop := o = (hk_of r.1, some (.int r.2))
noncomputable def f137_18  (s : xS) : Option (xS × Int32) := some (s, (-1 : Int32))
set_option maxRecDepth 20000 in
theorem s137_18 {sc : Option (Nat × (Nat → Int32))}  {s : xS} {o : xH × Option Value} {r : (xS × Int32)}  (h : f137_18  s = some r) (hr : dn137 o r) : Ev sc 4 137 [] 18 [none, none, none] [] (hk_of s) o := by
  unfold f137_18 at h
  refine E_blk rfl ?_
  refine E_ps 1 (pc' := 19) (l' := [none, none, none]) (st' := [.int (-1 : Int32)]) rfl ?_
  cases h
  exact E_ret rfl (pg_mt_md (by decide)) rfl hr
noncomputable def f137 (x0 : Nat) (x1 : Int32) (x2 : Int32) (s : xS) : Option (xS × Int32) := ifg (oK x0 11 = true) <| (f166 x2 s).bind fun z1 => if z1.2 = 0 then (f137_18  z1.1) else ((hk_R x0 1).bind fun a4 => (f66 a4 x1 z1.1).bind fun z7 => if z7.2 = 0 then (f137_18  z7.1) else ((hk_R x0 8).bind fun a10 => (hk_R x0 5).bind fun a13 => (f30 a10 a13 x1 (1 : Int32) z7.1).bind fun z16 => (hk_R x0 8).bind fun a18 => (hk_R a18 1).bind fun a21 => (f49 a21 z16.1).bind fun z24 => (hk_R x0 8).bind fun a26 => (hk_R a26 1).bind fun a29 => (f46 a29 z24.1).bind fun z32 => (hk_R x0 8).bind fun a34 => (hk_R a34 1).bind fun a37 => (f171 (z32.2).toInt64 (z32.1.1 a37 11).toInt64 x2 z32.1).bind fun z40 => some (z40.1, (z40.2).toInt32)))
set_option maxRecDepth 20000 in
theorem s137 {sc : Option (Nat × (Nat → Int32))} {x0 : Nat} {x1 : Int32} {x2 : Int32} {s : xS} {r : xS × Int32} (h : f137 x0 x1 x2 s = some r) : Cl sc 4 137 [.ref x0, .int x1, .int x2] (hk_of s) (hk_of r.1, some (.int r.2)) := by
  unfold f137 at h
  obtain ⟨k0, h⟩ := ifg_some h
  refine ⟨pg_md 137, [some (.ref x0), some (.int x1), some (.int x2)], pg_mt_md (by decide), (hk_rcv k0), rfl, ?_⟩
  generalize ho : ((hk_of r.1, some (Value.int r.2)) : xH × Option Value) = o
  have hr : dn137 o r := ho.symm
  refine E_blk rfl ?_
  refine E_ps 1 (pc' := 1) (l' := [some (.ref x0), some (.int x1), some (.int x2)]) (st' := [.int x2]) rfl ?_
  obtain ⟨z1, e2, h⟩ := Option.bind_eq_some_iff.mp h
  refine E_callI (vs := [.int x2]) (rest := []) rfl (by decide) rfl rfl (Nat.le_of_ble_eq_true rfl) (s166 e2) (by decide) ?_
  by_cases c3 : z1.2 = 0
  · rw [if_pos c3] at h
    refine E_jt rfl rfl c3 ?_
    exact E_wk (l' := [none, none, none]) trivial (s137_18  h hr)
  · rw [if_neg c3] at h
    refine E_jf rfl rfl c3 ?_
    refine E_blk rfl ?_
    refine E_ps 1 (pc' := 8) (l' := [some (.ref x0), some (.int x1), some (.int x2)]) (st' := [.ref x0]) rfl ?_
    obtain ⟨a4, e5, h⟩ := Option.bind_eq_some_iff.mp h
    refine E_gr k0 (by decide) rfl e5 ?_
    have kf6 : oK a4 7 = true := hk_rty k0 e5 rfl (by decide)
    refine E_ps 1 (pc' := 12) (l' := [some (.ref x0), some (.int x1), some (.int x2)]) (st' := [.int x1, .ref a4]) rfl ?_
    obtain ⟨z7, e8, h⟩ := Option.bind_eq_some_iff.mp h
    refine E_callI (vs := [.ref a4, .int x1]) (rest := []) rfl (by decide) rfl rfl (Nat.le_of_ble_eq_true rfl) (s66 e8) (by decide) ?_
    by_cases c9 : z7.2 = 0
    · rw [if_pos c9] at h
      refine E_jt rfl rfl c9 ?_
      exact E_wk (l' := [none, none, none]) trivial (s137_18  h hr)
    · rw [if_neg c9] at h
      refine E_jf rfl rfl c9 ?_
      refine E_blk rfl ?_
      refine E_ps 1 (pc' := 21) (l' := [some (.ref x0), some (.int x1), some (.int x2)]) (st' := [.ref x0]) rfl ?_
      obtain ⟨a10, e11, h⟩ := Option.bind_eq_some_iff.mp h
      refine E_gr k0 (by decide) rfl e11 ?_
      have kf12 : oK a10 3 = true := hk_rty k0 e11 rfl (by decide)
      refine E_ps 1 (pc' := 25) (l' := [some (.ref x0), some (.int x1), some (.int x2)]) (st' := [.ref x0, .ref a10]) rfl ?_
      obtain ⟨a13, e14, h⟩ := Option.bind_eq_some_iff.mp h
      refine E_gr k0 (by decide) rfl e14 ?_
      have kf15 : oK a13 0 = true := hk_rty k0 e14 rfl (by decide)
      refine E_ps 2 (pc' := 30) (l' := [some (.ref x0), some (.int x1), some (.int x2)]) (st' := [.int (1 : Int32), .int x1, .ref a13, .ref a10]) rfl ?_
      obtain ⟨z16, e17, h⟩ := Option.bind_eq_some_iff.mp h
      refine E_callV (vs := [.ref a10, .ref a13, .int x1, .int (1 : Int32)]) (rest := []) rfl (by decide) rfl rfl (Nat.le_of_ble_eq_true rfl) (s30 e17) (by decide) ?_
      refine E_ps 1 (pc' := 34) (l' := [some (.ref x0), some (.int x1), some (.int x2)]) (st' := [.ref x0]) rfl ?_
      obtain ⟨a18, e19, h⟩ := Option.bind_eq_some_iff.mp h
      refine E_gr k0 (by decide) rfl e19 ?_
      have kf20 : oK a18 3 = true := hk_rty k0 e19 rfl (by decide)
      obtain ⟨a21, e22, h⟩ := Option.bind_eq_some_iff.mp h
      refine E_gr kf20 (by decide) rfl e22 ?_
      have kf23 : oK a21 5 = true := hk_rty kf20 e22 rfl (by decide)
      obtain ⟨z24, e25, h⟩ := Option.bind_eq_some_iff.mp h
      refine E_callV (vs := [.ref a21]) (rest := []) rfl (by decide) rfl rfl (Nat.le_of_ble_eq_true rfl) (s49 e25) (by decide) ?_
      refine E_ps 1 (pc' := 44) (l' := [some (.ref x0), some (.int x1), some (.int x2)]) (st' := [.ref x0]) rfl ?_
      obtain ⟨a26, e27, h⟩ := Option.bind_eq_some_iff.mp h
      refine E_gr k0 (by decide) rfl e27 ?_
      have kf28 : oK a26 3 = true := hk_rty k0 e27 rfl (by decide)
      obtain ⟨a29, e30, h⟩ := Option.bind_eq_some_iff.mp h
      refine E_gr kf28 (by decide) rfl e30 ?_
      have kf31 : oK a29 5 = true := hk_rty kf28 e30 rfl (by decide)
      obtain ⟨z32, e33, h⟩ := Option.bind_eq_some_iff.mp h
      refine E_callI (vs := [.ref a29]) (rest := []) rfl (by decide) rfl rfl (Nat.le_of_ble_eq_true rfl) (s46 e33) (by decide) ?_
      refine E_ps 2 (pc' := 55) (l' := [some (.ref x0), some (.int x1), some (.int x2)]) (st' := [.ref x0, .long (z32.2).toInt64]) rfl ?_
      obtain ⟨a34, e35, h⟩ := Option.bind_eq_some_iff.mp h
      refine E_gr k0 (by decide) rfl e35 ?_
      have kf36 : oK a34 3 = true := hk_rty k0 e35 rfl (by decide)
      obtain ⟨a37, e38, h⟩ := Option.bind_eq_some_iff.mp h
      refine E_gr kf36 (by decide) rfl e38 ?_
      have kf39 : oK a37 5 = true := hk_rty kf36 e38 rfl (by decide)
      refine E_gi kf39 (by decide) rfl ?_
      refine E_ps 2 (pc' := 66) (l' := [some (.ref x0), some (.int x1), some (.int x2)]) (st' := [.int x2, .long (z32.1.1 a37 11).toInt64, .long (z32.2).toInt64]) rfl ?_
      obtain ⟨z40, e41, h⟩ := Option.bind_eq_some_iff.mp h
      refine E_callL (vs := [.long (z32.2).toInt64, .long (z32.1.1 a37 11).toInt64, .int x2]) (rest := []) rfl (by decide) rfl rfl (Nat.le_of_ble_eq_true rfl) (s171 e41) (by decide) ?_
      refine E_ps 1 (pc' := 70) (l' := [some (.ref x0), some (.int x1), some (.int x2)]) (st' := [.int (z40.2).toInt32]) rfl ?_
      cases h
      exact E_ret rfl (pg_mt_md (by decide)) rfl hr

-- 138: ThreePlates.flat(I)I
def dn138 (o : xH × Option Value) (r : xS × Int32) : Prop := o = (hk_of r.1, some (.int r.2))
noncomputable def f138_25 (y0 : Int32) (s : xS) : Option (xS × Int32) := some (s, y0)
set_option maxRecDepth 20000 in
theorem s138_25 {sc : Option (Nat × (Nat → Int32))} {y0 : Int32} {s : xS} {o : xH × Option Value} {r : (xS × Int32)}  (h : f138_25 y0 s = some r) (hr : dn138 o r) : Ev sc 6 138 [] 25 [none, none] [.int y0] (hk_of s) o := by
  unfold f138_25 at h
  refine E_blk rfl ?_
  cases h
  exact E_ret rfl (pg_mt_md (by decide)) rfl hr
noncomputable def f138 (x0 : Nat) (x1 : Int32) (s : xS) : Option (xS × Int32) := ifg (oK x0 11 = true) <| (f167 x1 s).bind fun z1 => if z1.2 = 0 then (some (z1.1, (-1 : Int32))) else ((hk_R x0 9).bind fun a4 => (f97 a4 x1 z1.1).bind fun z7 => if z7.2 = 0 then (f138_25 (0 : Int32) z7.1) else (f138_25 (1 : Int32) z7.1))
set_option maxRecDepth 20000 in
theorem s138 {sc : Option (Nat × (Nat → Int32))} {x0 : Nat} {x1 : Int32} {s : xS} {r : xS × Int32} (h : f138 x0 x1 s = some r) : Cl sc 6 138 [.ref x0, .int x1] (hk_of s) (hk_of r.1, some (.int r.2)) := by
  unfold f138 at h
  obtain ⟨k0, h⟩ := ifg_some h
  refine ⟨pg_md 138, [some (.ref x0), some (.int x1)], pg_mt_md (by decide), (hk_rcv k0), rfl, ?_⟩
  generalize ho : ((hk_of r.1, some (Value.int r.2)) : xH × Option Value) = o
  have hr : dn138 o r := ho.symm
  refine E_blk rfl ?_
  refine E_ps 1 (pc' := 1) (l' := [some (.ref x0), some (.int x1)]) (st' := [.int x1]) rfl ?_
  obtain ⟨z1, e2, h⟩ := Option.bind_eq_some_iff.mp h
  refine E_callI (vs := [.int x1]) (rest := []) rfl (by decide) rfl rfl (Nat.le_of_ble_eq_true rfl) (s167 e2) (by decide) ?_
  by_cases c3 : z1.2 = 0
  · rw [if_pos c3] at h
    refine E_jt rfl rfl c3 ?_
    refine E_blk rfl ?_
    refine E_ps 1 (pc' := 8) (l' := [some (.ref x0), some (.int x1)]) (st' := [.int (-1 : Int32)]) rfl ?_
    cases h
    exact E_ret rfl (pg_mt_md (by decide)) rfl hr
  · rw [if_neg c3] at h
    refine E_jf rfl rfl c3 ?_
    refine E_blk rfl ?_
    refine E_ps 1 (pc' := 10) (l' := [some (.ref x0), some (.int x1)]) (st' := [.ref x0]) rfl ?_
    obtain ⟨a4, e5, h⟩ := Option.bind_eq_some_iff.mp h
    refine E_gr k0 (by decide) rfl e5 ?_
    have kf6 : oK a4 9 = true := hk_rty k0 e5 rfl (by decide)
    refine E_ps 1 (pc' := 14) (l' := [some (.ref x0), some (.int x1)]) (st' := [.int x1, .ref a4]) rfl ?_
    obtain ⟨z7, e8, h⟩ := Option.bind_eq_some_iff.mp h
    refine E_callI (vs := [.ref a4, .int x1]) (rest := []) rfl (by decide) rfl rfl (Nat.le_of_ble_eq_true rfl) (s97 e8) (by decide) ?_
    by_cases c9 : z7.2 = 0
    · rw [if_pos c9] at h
      refine E_jt rfl rfl c9 ?_
      refine E_blk rfl ?_
      refine E_ps 1 (pc' := 25) (l' := [some (.ref x0), some (.int x1)]) (st' := [.int (0 : Int32)]) rfl ?_
      exact E_wk (l' := [none, none]) trivial (s138_25  h hr)
    · rw [if_neg c9] at h
      refine E_jf rfl rfl c9 ?_
      refine E_blk rfl ?_
      refine E_ps 1 (pc' := 21) (l' := [some (.ref x0), some (.int x1)]) (st' := [.int (1 : Int32)]) rfl ?_
      refine E_j rfl rfl ?_
      exact E_wk (l' := [none, none]) trivial (s138_25  h hr)

-- 139: ThreePlates.warm(III)Z
def dn139 (o : xH × Option Value) (r : xS × Int32) : Prop := o = (hk_of r.1, some (.int r.2))
noncomputable def f139_23  (s : xS) : Option (xS × Int32) := some (s, (0 : Int32))
set_option maxRecDepth 20000 in
theorem s139_23 {sc : Option (Nat × (Nat → Int32))}  {s : xS} {o : xH × Option Value} {r : (xS × Int32)}  (h : f139_23  s = some r) (hr : dn139 o r) : Ev sc 3 139 [] 23 [none, none, none, none] [] (hk_of s) o := by
  unfold f139_23 at h
  refine E_blk rfl ?_
  refine E_ps 1 (pc' := 24) (l' := [none, none, none, none]) (st' := [.int (0 : Int32)]) rfl ?_
  cases h
  exact E_ret rfl (pg_mt_md (by decide)) rfl hr
noncomputable def f139 (x0 : Nat) (x1 : Int32) (x2 : Int32) (x3 : Int32) (s : xS) : Option (xS × Int32) := ifg (oK x0 11 = true) <| (hk_R x0 1).bind fun a1 => (f67 a1 x1 x2 s).bind fun z4 => if z4.2 = 0 then (f139_23  z4.1) else (if x3 < (1 : Int32) then (f139_23  z4.1) else (if x3 ≤ (20 : Int32) then ((f164 x0 z4.1).bind fun z9 => (hk_R x0 5).bind fun a11 => (hk_R x0 1).bind fun a14 => (f6 a11 x1 x2 x3 (z9.1.1 a14 3) z9.1).bind fun z17 => some (z17.1, (1 : Int32))) else (f139_23  z4.1)))
set_option maxRecDepth 20000 in
theorem s139 {sc : Option (Nat × (Nat → Int32))} {x0 : Nat} {x1 : Int32} {x2 : Int32} {x3 : Int32} {s : xS} {r : xS × Int32} (h : f139 x0 x1 x2 x3 s = some r) : Cl sc 3 139 [.ref x0, .int x1, .int x2, .int x3] (hk_of s) (hk_of r.1, some (.int r.2)) := by
  unfold f139 at h
  obtain ⟨k0, h⟩ := ifg_some h
  refine ⟨pg_md 139, [some (.ref x0), some (.int x1), some (.int x2), some (.int x3)], pg_mt_md (by decide), (hk_rcv k0), rfl, ?_⟩
  generalize ho : ((hk_of r.1, some (Value.int r.2)) : xH × Option Value) = o
  have hr : dn139 o r := ho.symm
  refine E_blk rfl ?_
  refine E_ps 1 (pc' := 1) (l' := [some (.ref x0), some (.int x1), some (.int x2), some (.int x3)]) (st' := [.ref x0]) rfl ?_
  obtain ⟨a1, e2, h⟩ := Option.bind_eq_some_iff.mp h
  refine E_gr k0 (by decide) rfl e2 ?_
  have kf3 : oK a1 7 = true := hk_rty k0 e2 rfl (by decide)
  refine E_ps 2 (pc' := 6) (l' := [some (.ref x0), some (.int x1), some (.int x2), some (.int x3)]) (st' := [.int x2, .int x1, .ref a1]) rfl ?_
  obtain ⟨z4, e5, h⟩ := Option.bind_eq_some_iff.mp h
  refine E_callI (vs := [.ref a1, .int x1, .int x2]) (rest := []) rfl (by decide) rfl rfl (Nat.le_of_ble_eq_true rfl) (s67 e5) (by decide) ?_
  by_cases c6 : z4.2 = 0
  · rw [if_pos c6] at h
    refine E_jt rfl rfl c6 ?_
    exact E_wk (l' := [none, none, none, none]) trivial (s139_23  h hr)
  · rw [if_neg c6] at h
    refine E_jf rfl rfl c6 ?_
    refine E_blk rfl ?_
    refine E_ps 2 (pc' := 14) (l' := [some (.ref x0), some (.int x1), some (.int x2), some (.int x3)]) (st' := [.int (1 : Int32), .int x3]) rfl ?_
    by_cases c7 : x3 < (1 : Int32)
    · rw [if_pos c7] at h
      refine E_jt rfl rfl c7 ?_
      exact E_wk (l' := [none, none, none, none]) trivial (s139_23  h hr)
    · rw [if_neg c7] at h
      refine E_jf rfl rfl c7 ?_
      refine E_blk rfl ?_
      refine E_ps 2 (pc' := 20) (l' := [some (.ref x0), some (.int x1), some (.int x2), some (.int x3)]) (st' := [.int (20 : Int32), .int x3]) rfl ?_
      by_cases c8 : x3 ≤ (20 : Int32)
      · rw [if_pos c8] at h
        refine E_jt rfl rfl c8 ?_
        refine E_blk rfl ?_
        refine E_ps 1 (pc' := 26) (l' := [some (.ref x0), some (.int x1), some (.int x2), some (.int x3)]) (st' := [.ref x0]) rfl ?_
        obtain ⟨z9, e10, h⟩ := Option.bind_eq_some_iff.mp h
        refine E_callV (vs := [.ref x0]) (rest := []) rfl (by decide) rfl rfl (Nat.le_of_ble_eq_true rfl) (s164 e10) (by decide) ?_
        refine E_ps 1 (pc' := 30) (l' := [some (.ref x0), some (.int x1), some (.int x2), some (.int x3)]) (st' := [.ref x0]) rfl ?_
        obtain ⟨a11, e12, h⟩ := Option.bind_eq_some_iff.mp h
        refine E_gr k0 (by decide) rfl e12 ?_
        have kf13 : oK a11 0 = true := hk_rty k0 e12 rfl (by decide)
        refine E_ps 4 (pc' := 37) (l' := [some (.ref x0), some (.int x1), some (.int x2), some (.int x3)]) (st' := [.ref x0, .int x3, .int x2, .int x1, .ref a11]) rfl ?_
        obtain ⟨a14, e15, h⟩ := Option.bind_eq_some_iff.mp h
        refine E_gr k0 (by decide) rfl e15 ?_
        have kf16 : oK a14 7 = true := hk_rty k0 e15 rfl (by decide)
        refine E_gi kf16 (by decide) rfl ?_
        obtain ⟨z17, e18, h⟩ := Option.bind_eq_some_iff.mp h
        refine E_callV (vs := [.ref a11, .int x1, .int x2, .int x3, .int (z9.1.1 a14 3)]) (rest := []) rfl (by decide) rfl rfl (Nat.le_of_ble_eq_true rfl) (s6 e18) (by decide) ?_
        refine E_ps 1 (pc' := 47) (l' := [some (.ref x0), some (.int x1), some (.int x2), some (.int x3)]) (st' := [.int (1 : Int32)]) rfl ?_
        cases h
        exact E_ret rfl (pg_mt_md (by decide)) rfl hr
      · rw [if_neg c8] at h
        refine E_jf rfl rfl c8 ?_
        exact E_wk (l' := [none, none, none, none]) trivial (s139_23  h hr)

-- 140: ThreePlates.rest(I)Z
def dn140 (o : xH × Option Value) (r : xS × Int32) : Prop := o = (hk_of r.1, some (.int r.2))
noncomputable def f140_11  (s : xS) : Option (xS × Int32) := some (s, (0 : Int32))
set_option maxRecDepth 20000 in
theorem s140_11 {sc : Option (Nat × (Nat → Int32))}  {s : xS} {o : xH × Option Value} {r : (xS × Int32)}  (h : f140_11  s = some r) (hr : dn140 o r) : Ev sc 3 140 [] 11 [none, none] [] (hk_of s) o := by
  unfold f140_11 at h
  refine E_blk rfl ?_
  refine E_ps 1 (pc' := 12) (l' := [none, none]) (st' := [.int (0 : Int32)]) rfl ?_
  cases h
  exact E_ret rfl (pg_mt_md (by decide)) rfl hr
noncomputable def f140 (x0 : Nat) (x1 : Int32) (s : xS) : Option (xS × Int32) := ifg (oK x0 11 = true) <| if x1 < 0 then (f140_11  s) else (if x1 ≤ (1000 : Int32) then ((f164 x0 s).bind fun z3 => (hk_R x0 5).bind fun a5 => (f8 a5 x1 z3.1).bind fun z8 => some (z8.1, (1 : Int32))) else (f140_11  s))
set_option maxRecDepth 20000 in
theorem s140 {sc : Option (Nat × (Nat → Int32))} {x0 : Nat} {x1 : Int32} {s : xS} {r : xS × Int32} (h : f140 x0 x1 s = some r) : Cl sc 3 140 [.ref x0, .int x1] (hk_of s) (hk_of r.1, some (.int r.2)) := by
  unfold f140 at h
  obtain ⟨k0, h⟩ := ifg_some h
  refine ⟨pg_md 140, [some (.ref x0), some (.int x1)], pg_mt_md (by decide), (hk_rcv k0), rfl, ?_⟩
  generalize ho : ((hk_of r.1, some (Value.int r.2)) : xH × Option Value) = o
  have hr : dn140 o r := ho.symm
  refine E_blk rfl ?_
  refine E_ps 1 (pc' := 1) (l' := [some (.ref x0), some (.int x1)]) (st' := [.int x1]) rfl ?_
  by_cases c1 : x1 < 0
  · rw [if_pos c1] at h
    refine E_jt rfl rfl c1 ?_
    exact E_wk (l' := [none, none]) trivial (s140_11  h hr)
  · rw [if_neg c1] at h
    refine E_jf rfl rfl c1 ?_
    refine E_blk rfl ?_
    refine E_ps 2 (pc' := 8) (l' := [some (.ref x0), some (.int x1)]) (st' := [.int (1000 : Int32), .int x1]) rfl ?_
    by_cases c2 : x1 ≤ (1000 : Int32)
    · rw [if_pos c2] at h
      refine E_jt rfl rfl c2 ?_
      refine E_blk rfl ?_
      refine E_ps 1 (pc' := 14) (l' := [some (.ref x0), some (.int x1)]) (st' := [.ref x0]) rfl ?_
      obtain ⟨z3, e4, h⟩ := Option.bind_eq_some_iff.mp h
      refine E_callV (vs := [.ref x0]) (rest := []) rfl (by decide) rfl rfl (Nat.le_of_ble_eq_true rfl) (s164 e4) (by decide) ?_
      refine E_ps 1 (pc' := 18) (l' := [some (.ref x0), some (.int x1)]) (st' := [.ref x0]) rfl ?_
      obtain ⟨a5, e6, h⟩ := Option.bind_eq_some_iff.mp h
      refine E_gr k0 (by decide) rfl e6 ?_
      have kf7 : oK a5 0 = true := hk_rty k0 e6 rfl (by decide)
      refine E_ps 1 (pc' := 22) (l' := [some (.ref x0), some (.int x1)]) (st' := [.int x1, .ref a5]) rfl ?_
      obtain ⟨z8, e9, h⟩ := Option.bind_eq_some_iff.mp h
      refine E_callV (vs := [.ref a5, .int x1]) (rest := []) rfl (by decide) rfl rfl (Nat.le_of_ble_eq_true rfl) (s8 e9) (by decide) ?_
      refine E_ps 1 (pc' := 26) (l' := [some (.ref x0), some (.int x1)]) (st' := [.int (1 : Int32)]) rfl ?_
      cases h
      exact E_ret rfl (pg_mt_md (by decide)) rfl hr
    · rw [if_neg c2] at h
      refine E_jf rfl rfl c2 ?_
      exact E_wk (l' := [none, none]) trivial (s140_11  h hr)

-- 141: ThreePlates.hidden()I
def dn141 (o : xH × Option Value) (r : xS × Int32) : Prop := o = (hk_of r.1, some (.int r.2))
noncomputable def f141 (x0 : Nat) (s : xS) : Option (xS × Int32) := ifg (oK x0 11 = true) <| (hk_R x0 11).bind fun a1 => (f13 a1 s).bind fun z4 => (hk_R x0 11).bind fun a6 => (f14 a6 z4.1).bind fun z9 => (hk_R x0 1).bind fun a11 => some (z9.1, ((z4.2 - z9.2) - ((3 : Int32) * (z9.1.1 a11 2))))
set_option maxRecDepth 20000 in
theorem s141 {sc : Option (Nat × (Nat → Int32))} {x0 : Nat} {s : xS} {r : xS × Int32} (h : f141 x0 s = some r) : Cl sc 5 141 [.ref x0] (hk_of s) (hk_of r.1, some (.int r.2)) := by
  unfold f141 at h
  obtain ⟨k0, h⟩ := ifg_some h
  refine ⟨pg_md 141, [some (.ref x0), none], pg_mt_md (by decide), (hk_rcv k0), rfl, ?_⟩
  generalize ho : ((hk_of r.1, some (Value.int r.2)) : xH × Option Value) = o
  have hr : dn141 o r := ho.symm
  refine E_blk rfl ?_
  refine E_ps 1 (pc' := 1) (l' := [some (.ref x0), none]) (st' := [.ref x0]) rfl ?_
  obtain ⟨a1, e2, h⟩ := Option.bind_eq_some_iff.mp h
  refine E_gr k0 (by decide) rfl e2 ?_
  have kf3 : oK a1 1 = true := hk_rty k0 e2 rfl (by decide)
  obtain ⟨z4, e5, h⟩ := Option.bind_eq_some_iff.mp h
  refine E_callI (vs := [.ref a1]) (rest := []) rfl (by decide) rfl rfl (Nat.le_of_ble_eq_true rfl) (s13 e5) (by decide) ?_
  refine E_ps 3 (pc' := 10) (l' := [some (.ref x0), some (.int z4.2)]) (st' := [.ref x0, .int z4.2]) rfl ?_
  obtain ⟨a6, e7, h⟩ := Option.bind_eq_some_iff.mp h
  refine E_gr k0 (by decide) rfl e7 ?_
  have kf8 : oK a6 1 = true := hk_rty k0 e7 rfl (by decide)
  obtain ⟨z9, e10, h⟩ := Option.bind_eq_some_iff.mp h
  refine E_callI (vs := [.ref a6]) (rest := [.int z4.2]) rfl (by decide) rfl rfl (Nat.le_of_ble_eq_true rfl) (s14 e10) (by decide) ?_
  refine E_ps 3 (pc' := 19) (l' := [some (.ref x0), some (.int z4.2)]) (st' := [.ref x0, .int (3 : Int32), .int (z4.2 - z9.2)]) rfl ?_
  obtain ⟨a11, e12, h⟩ := Option.bind_eq_some_iff.mp h
  refine E_gr k0 (by decide) rfl e12 ?_
  have kf13 : oK a11 7 = true := hk_rty k0 e12 rfl (by decide)
  refine E_gi kf13 (by decide) rfl ?_
  refine E_ps 2 (pc' := 27) (l' := [some (.ref x0), some (.int z4.2)]) (st' := [.int ((z4.2 - z9.2) - ((3 : Int32) * (z9.1.1 a11 2)))]) rfl ?_
  cases h
  exact E_ret rfl (pg_mt_md (by decide)) rfl hr

-- 142: ThreePlates.hides()I
def dn142 (o : xH × Option Value) (r : xS × Int32) : Prop := o = (hk_of r.1, some (.int r.2))
def dn142_14 (sc : Option (Nat × (Nat → Int32))) (x0 : Nat) (o : xH × Option Value) (r : ((Int32 × xS) ⊕ (xS × Int32))) : Prop := match r with
  | .inl q => Ev sc 5 142 [] 14 [some (.ref x0), some (.int q.1), none] [] (hk_of q.2) o
  | .inr r => dn142 o r
noncomputable def f142_14 (x0 : Nat) (x1 : Int32) (s : xS) : Option ((Int32 × xS) ⊕ (xS × Int32)) := (hk_R x0 3).bind fun a1 => if (s.1 a1 1) ≤ x1 then (Option.map Sum.inr (some (s, (1 : Int32)))) else ((hk_R x0 3).bind fun a5 => (hk_R a5 0).bind fun a8 => (aR a8 x1).bind fun a10 => ifg (oK a10 6 = true) <| (hk_R x0 8).bind fun a13 => (hk_R x0 5).bind fun a16 => (f26 a13 a16 (s.1 a10 1) (s.1 a10 0) (s.1 a10 2) (s.1 a10 3) (s.1 a10 4) s).bind fun z19 => (hk_R x0 8).bind fun a21 => (hk_R a21 1).bind fun a24 => (hk_R x0 1).bind fun a27 => (f48 a24 (z19.1.1 a27 4) z19.1).bind fun z30 => if z30.2 = 0 then (Option.map Sum.inr (some (z30.1, (0 : Int32)))) else (some (Sum.inl ((x1 + (1 : Int32)), z30.1))))
set_option maxRecDepth 20000 in
theorem s142_14 {sc : Option (Nat × (Nat → Int32))} {x0 : Nat} {x1 : Int32} {s : xS} {o : xH × Option Value} {r : ((Int32 × xS) ⊕ (xS × Int32))} (k0 : oK x0 11 = true) (h : f142_14 x0 x1 s = some r) (hr : dn142_14 sc x0 o r) : Ev sc 5 142 [] 14 [some (.ref x0), some (.int x1), none] [] (hk_of s) o := by
  unfold f142_14 at h
  refine E_blk rfl ?_
  refine E_ps 2 (pc' := 16) (l' := [some (.ref x0), some (.int x1), none]) (st' := [.ref x0, .int x1]) rfl ?_
  obtain ⟨a1, e2, h⟩ := Option.bind_eq_some_iff.mp h
  refine E_gr k0 (by decide) rfl e2 ?_
  have kf3 : oK a1 4 = true := hk_rty k0 e2 rfl (by decide)
  refine E_gi kf3 (by decide) rfl ?_
  by_cases c4 : (s.1 a1 1) ≤ x1
  · rw [if_pos c4] at h
    refine E_jt rfl rfl c4 ?_
    obtain ⟨r, h, hr⟩ := lf_some (Dn := dn142_14 sc x0 o) h hr
    refine E_blk rfl ?_
    refine E_ps 1 (pc' := 95) (l' := [some (.ref x0), some (.int x1), none]) (st' := [.int (1 : Int32)]) rfl ?_
    cases h
    exact E_ret rfl (pg_mt_md (by decide)) rfl hr
  · rw [if_neg c4] at h
    refine E_jf rfl rfl c4 ?_
    refine E_blk rfl ?_
    refine E_ps 1 (pc' := 26) (l' := [some (.ref x0), some (.int x1), none]) (st' := [.ref x0]) rfl ?_
    obtain ⟨a5, e6, h⟩ := Option.bind_eq_some_iff.mp h
    refine E_gr k0 (by decide) rfl e6 ?_
    have kf7 : oK a5 4 = true := hk_rty k0 e6 rfl (by decide)
    obtain ⟨a8, e9, h⟩ := Option.bind_eq_some_iff.mp h
    refine E_gr kf7 (by decide) rfl e9 ?_
    refine E_ps 1 (pc' := 33) (l' := [some (.ref x0), some (.int x1), none]) (st' := [.int x1, .ref a8]) rfl ?_
    obtain ⟨a10, e11, h⟩ := Option.bind_eq_some_iff.mp h
    refine E_ar e11 ?_
    obtain ⟨g12, h⟩ := ifg_some h
    refine E_ps 2 (pc' := 36) (l' := [some (.ref x0), some (.int x1), some (.ref a10)]) (st' := [.ref x0]) rfl ?_
    obtain ⟨a13, e14, h⟩ := Option.bind_eq_some_iff.mp h
    refine E_gr k0 (by decide) rfl e14 ?_
    have kf15 : oK a13 3 = true := hk_rty k0 e14 rfl (by decide)
    refine E_ps 1 (pc' := 40) (l' := [some (.ref x0), some (.int x1), some (.ref a10)]) (st' := [.ref x0, .ref a13]) rfl ?_
    obtain ⟨a16, e17, h⟩ := Option.bind_eq_some_iff.mp h
    refine E_gr k0 (by decide) rfl e17 ?_
    have kf18 : oK a16 0 = true := hk_rty k0 e17 rfl (by decide)
    refine E_ps 1 (pc' := 44) (l' := [some (.ref x0), some (.int x1), some (.ref a10)]) (st' := [.ref a10, .ref a16, .ref a13]) rfl ?_
    refine E_gi g12 (by decide) rfl ?_
    refine E_ps 1 (pc' := 48) (l' := [some (.ref x0), some (.int x1), some (.ref a10)]) (st' := [.ref a10, .int (s.1 a10 1), .ref a16, .ref a13]) rfl ?_
    refine E_gi g12 (by decide) rfl ?_
    refine E_ps 1 (pc' := 52) (l' := [some (.ref x0), some (.int x1), some (.ref a10)]) (st' := [.ref a10, .int (s.1 a10 0), .int (s.1 a10 1), .ref a16, .ref a13]) rfl ?_
    refine E_gi g12 (by decide) rfl ?_
    refine E_ps 1 (pc' := 56) (l' := [some (.ref x0), some (.int x1), some (.ref a10)]) (st' := [.ref a10, .int (s.1 a10 2), .int (s.1 a10 0), .int (s.1 a10 1), .ref a16, .ref a13]) rfl ?_
    refine E_gi g12 (by decide) rfl ?_
    refine E_ps 1 (pc' := 60) (l' := [some (.ref x0), some (.int x1), some (.ref a10)]) (st' := [.ref a10, .int (s.1 a10 3), .int (s.1 a10 2), .int (s.1 a10 0), .int (s.1 a10 1), .ref a16, .ref a13]) rfl ?_
    refine E_gi g12 (by decide) rfl ?_
    obtain ⟨z19, e20, h⟩ := Option.bind_eq_some_iff.mp h
    refine E_callV (vs := [.ref a13, .ref a16, .int (s.1 a10 1), .int (s.1 a10 0), .int (s.1 a10 2), .int (s.1 a10 3), .int (s.1 a10 4)]) (rest := []) rfl (by decide) rfl rfl (Nat.le_of_ble_eq_true rfl) (s26 e20) (by decide) ?_
    refine E_ps 1 (pc' := 67) (l' := [some (.ref x0), some (.int x1), some (.ref a10)]) (st' := [.ref x0]) rfl ?_
    obtain ⟨a21, e22, h⟩ := Option.bind_eq_some_iff.mp h
    refine E_gr k0 (by decide) rfl e22 ?_
    have kf23 : oK a21 3 = true := hk_rty k0 e22 rfl (by decide)
    obtain ⟨a24, e25, h⟩ := Option.bind_eq_some_iff.mp h
    refine E_gr kf23 (by decide) rfl e25 ?_
    have kf26 : oK a24 5 = true := hk_rty kf23 e25 rfl (by decide)
    refine E_ps 1 (pc' := 74) (l' := [some (.ref x0), some (.int x1), some (.ref a10)]) (st' := [.ref x0, .ref a24]) rfl ?_
    obtain ⟨a27, e28, h⟩ := Option.bind_eq_some_iff.mp h
    refine E_gr k0 (by decide) rfl e28 ?_
    have kf29 : oK a27 7 = true := hk_rty k0 e28 rfl (by decide)
    refine E_gi kf29 (by decide) rfl ?_
    obtain ⟨z30, e31, h⟩ := Option.bind_eq_some_iff.mp h
    refine E_callI (vs := [.ref a24, .int (z19.1.1 a27 4)]) (rest := []) rfl (by decide) rfl rfl (Nat.le_of_ble_eq_true rfl) (s48 e31) (by decide) ?_
    by_cases c32 : z30.2 = 0
    · rw [if_pos c32] at h
      refine E_jt rfl rfl c32 ?_
      obtain ⟨r, h, hr⟩ := lf_some (Dn := dn142_14 sc x0 o) h hr
      refine E_blk rfl ?_
      refine E_ps 1 (pc' := 87) (l' := [some (.ref x0), some (.int x1), some (.ref a10)]) (st' := [.int (0 : Int32)]) rfl ?_
      cases h
      exact E_ret rfl (pg_mt_md (by decide)) rfl hr
    · rw [if_neg c32] at h
      refine E_jf rfl rfl c32 ?_
      refine E_blk rfl ?_
      refine E_ps 1 (pc' := 91) (l' := [some (.ref x0), some (.int (x1 + (1 : Int32))), some (.ref a10)]) (st' := []) rfl ?_
      refine E_j rfl rfl ?_
      cases h
      exact E_wk (l' := [some (.ref x0), some (.int (x1 + (1 : Int32))), none]) ⟨rfl, rfl, trivial⟩ hr
theorem s142_14_w {sc : Option (Nat × (Nat → Int32))} {x0 : Nat} {x1 : Int32} {s : xS} {o : xH × Option Value} {r : (xS × Int32)} (k0 : oK x0 11 = true) (h : whl (fun q : (Int32 × xS) => f142_14 x0 q.1 q.2) (x1, s) = some r) (hr : dn142 o r) : Ev sc 5 142 [] 14 [some (.ref x0), some (.int x1), none] [] (hk_of s) o := by
  refine whl_snd (E := fun q : (Int32 × xS) => Ev sc 5 142 [] 14 [some (.ref x0), some (.int q.1), none] [] (hk_of q.2) o) (P := fun r => dn142 o r) (fun q r h hr => ?_) h hr
  exact s142_14 k0 h (by cases r <;> exact hr)
noncomputable def f142 (x0 : Nat) (s : xS) : Option (xS × Int32) := ifg (oK x0 11 = true) <| (hk_R x0 3).bind fun a1 => if (s.1 a1 1) = 0 then (some (s, (-1 : Int32))) else (whl (fun q : (Int32 × xS) => f142_14 x0 q.1 q.2) ((0 : Int32), s))
set_option maxRecDepth 20000 in
theorem s142 {sc : Option (Nat × (Nat → Int32))} {x0 : Nat} {s : xS} {r : xS × Int32} (h : f142 x0 s = some r) : Cl sc 5 142 [.ref x0] (hk_of s) (hk_of r.1, some (.int r.2)) := by
  unfold f142 at h
  obtain ⟨k0, h⟩ := ifg_some h
  refine ⟨pg_md 142, [some (.ref x0), none, none], pg_mt_md (by decide), (hk_rcv k0), rfl, ?_⟩
  generalize ho : ((hk_of r.1, some (Value.int r.2)) : xH × Option Value) = o
  have hr : dn142 o r := ho.symm
  refine E_blk rfl ?_
  refine E_ps 1 (pc' := 1) (l' := [some (.ref x0), none, none]) (st' := [.ref x0]) rfl ?_
  obtain ⟨a1, e2, h⟩ := Option.bind_eq_some_iff.mp h
  refine E_gr k0 (by decide) rfl e2 ?_
  have kf3 : oK a1 4 = true := hk_rty k0 e2 rfl (by decide)
  refine E_gi kf3 (by decide) rfl ?_
  by_cases c4 : (s.1 a1 1) = 0
  · rw [if_pos c4] at h
    refine E_jt rfl rfl c4 ?_
    refine E_blk rfl ?_
    refine E_ps 1 (pc' := 11) (l' := [some (.ref x0), none, none]) (st' := [.int (-1 : Int32)]) rfl ?_
    cases h
    exact E_ret rfl (pg_mt_md (by decide)) rfl hr
  · rw [if_neg c4] at h
    refine E_jf rfl rfl c4 ?_
    refine E_blk rfl ?_
    refine E_ps 2 (pc' := 14) (l' := [some (.ref x0), some (.int (0 : Int32)), none]) (st' := []) rfl ?_
    exact E_wk (l' := [some (.ref x0), some (.int (0 : Int32)), none]) ⟨rfl, rfl, trivial⟩ (s142_14_w k0 h hr)

-- 143: ThreePlates.until(I)I
def dn143 (o : xH × Option Value) (r : xS × Int32) : Prop := o = (hk_of r.1, some (.int r.2))
noncomputable def f143_17  (s : xS) : Option (xS × Int32) := some (s, (-1 : Int32))
set_option maxRecDepth 20000 in
theorem s143_17 {sc : Option (Nat × (Nat → Int32))}  {s : xS} {o : xH × Option Value} {r : (xS × Int32)}  (h : f143_17  s = some r) (hr : dn143 o r) : Ev sc 7 143 [] 17 [none, none] [] (hk_of s) o := by
  unfold f143_17 at h
  refine E_blk rfl ?_
  refine E_ps 1 (pc' := 18) (l' := [none, none]) (st' := [.int (-1 : Int32)]) rfl ?_
  cases h
  exact E_ret rfl (pg_mt_md (by decide)) rfl hr
noncomputable def f143 (x0 : Nat) (x1 : Int32) (s : xS) : Option (xS × Int32) := ifg (oK x0 11 = true) <| (f167 x1 s).bind fun z1 => if z1.2 = 0 then (f143_17  z1.1) else ((hk_R x0 3).bind fun a4 => if (z1.1.1 a4 1) = 0 then (f143_17  z1.1) else ((hk_R x0 9).bind fun a8 => (f100 a8 x1 z1.1).bind fun z11 => some (z11.1, z11.2)))
set_option maxRecDepth 20000 in
theorem s143 {sc : Option (Nat × (Nat → Int32))} {x0 : Nat} {x1 : Int32} {s : xS} {r : xS × Int32} (h : f143 x0 x1 s = some r) : Cl sc 7 143 [.ref x0, .int x1] (hk_of s) (hk_of r.1, some (.int r.2)) := by
  unfold f143 at h
  obtain ⟨k0, h⟩ := ifg_some h
  refine ⟨pg_md 143, [some (.ref x0), some (.int x1)], pg_mt_md (by decide), (hk_rcv k0), rfl, ?_⟩
  generalize ho : ((hk_of r.1, some (Value.int r.2)) : xH × Option Value) = o
  have hr : dn143 o r := ho.symm
  refine E_blk rfl ?_
  refine E_ps 1 (pc' := 1) (l' := [some (.ref x0), some (.int x1)]) (st' := [.int x1]) rfl ?_
  obtain ⟨z1, e2, h⟩ := Option.bind_eq_some_iff.mp h
  refine E_callI (vs := [.int x1]) (rest := []) rfl (by decide) rfl rfl (Nat.le_of_ble_eq_true rfl) (s167 e2) (by decide) ?_
  by_cases c3 : z1.2 = 0
  · rw [if_pos c3] at h
    refine E_jt rfl rfl c3 ?_
    exact E_wk (l' := [none, none]) trivial (s143_17  h hr)
  · rw [if_neg c3] at h
    refine E_jf rfl rfl c3 ?_
    refine E_blk rfl ?_
    refine E_ps 1 (pc' := 8) (l' := [some (.ref x0), some (.int x1)]) (st' := [.ref x0]) rfl ?_
    obtain ⟨a4, e5, h⟩ := Option.bind_eq_some_iff.mp h
    refine E_gr k0 (by decide) rfl e5 ?_
    have kf6 : oK a4 4 = true := hk_rty k0 e5 rfl (by decide)
    refine E_gi kf6 (by decide) rfl ?_
    by_cases c7 : (z1.1.1 a4 1) = 0
    · rw [if_pos c7] at h
      refine E_jt rfl rfl c7 ?_
      exact E_wk (l' := [none, none]) trivial (s143_17  h hr)
    · rw [if_neg c7] at h
      refine E_jf rfl rfl c7 ?_
      refine E_blk rfl ?_
      refine E_ps 1 (pc' := 20) (l' := [some (.ref x0), some (.int x1)]) (st' := [.ref x0]) rfl ?_
      obtain ⟨a8, e9, h⟩ := Option.bind_eq_some_iff.mp h
      refine E_gr k0 (by decide) rfl e9 ?_
      have kf10 : oK a8 9 = true := hk_rty k0 e9 rfl (by decide)
      refine E_ps 1 (pc' := 24) (l' := [some (.ref x0), some (.int x1)]) (st' := [.int x1, .ref a8]) rfl ?_
      obtain ⟨z11, e12, h⟩ := Option.bind_eq_some_iff.mp h
      refine E_callI (vs := [.ref a8, .int x1]) (rest := []) rfl (by decide) rfl rfl (Nat.le_of_ble_eq_true rfl) (s100 e12) (by decide) ?_
      cases h
      exact E_ret rfl (pg_mt_md (by decide)) rfl hr

-- 144: ThreePlates.best(II)I
def dn144 (o : xH × Option Value) (r : xS × Int32) : Prop := o = (hk_of r.1, some (.int r.2))
noncomputable def f144_23 (y0 : Int32) (s : xS) : Option (xS × Int32) := some (s, y0)
set_option maxRecDepth 20000 in
theorem s144_23 {sc : Option (Nat × (Nat → Int32))} {y0 : Int32} {s : xS} {o : xH × Option Value} {r : (xS × Int32)}  (h : f144_23 y0 s = some r) (hr : dn144 o r) : Ev sc 12 144 [] 23 [none, none, none] [.int y0] (hk_of s) o := by
  unfold f144_23 at h
  refine E_blk rfl ?_
  cases h
  exact E_ret rfl (pg_mt_md (by decide)) rfl hr
noncomputable def f144 (x0 : Nat) (x1 : Int32) (x2 : Int32) (s : xS) : Option (xS × Int32) := ifg (oK x0 11 = true) <| (hk_R x0 9).bind fun a1 => (f101 a1 x1 x2 s).bind fun z4 => if z4.2 = 0 then (f144_23 (-1 : Int32) z4.1) else ((hk_R x0 9).bind fun a7 => f144_23 (z4.1.1 a7 8) z4.1)
set_option maxRecDepth 20000 in
theorem s144 {sc : Option (Nat × (Nat → Int32))} {x0 : Nat} {x1 : Int32} {x2 : Int32} {s : xS} {r : xS × Int32} (h : f144 x0 x1 x2 s = some r) : Cl sc 12 144 [.ref x0, .int x1, .int x2] (hk_of s) (hk_of r.1, some (.int r.2)) := by
  unfold f144 at h
  obtain ⟨k0, h⟩ := ifg_some h
  refine ⟨pg_md 144, [some (.ref x0), some (.int x1), some (.int x2)], pg_mt_md (by decide), (hk_rcv k0), rfl, ?_⟩
  generalize ho : ((hk_of r.1, some (Value.int r.2)) : xH × Option Value) = o
  have hr : dn144 o r := ho.symm
  refine E_blk rfl ?_
  refine E_ps 1 (pc' := 1) (l' := [some (.ref x0), some (.int x1), some (.int x2)]) (st' := [.ref x0]) rfl ?_
  obtain ⟨a1, e2, h⟩ := Option.bind_eq_some_iff.mp h
  refine E_gr k0 (by decide) rfl e2 ?_
  have kf3 : oK a1 9 = true := hk_rty k0 e2 rfl (by decide)
  refine E_ps 2 (pc' := 6) (l' := [some (.ref x0), some (.int x1), some (.int x2)]) (st' := [.int x2, .int x1, .ref a1]) rfl ?_
  obtain ⟨z4, e5, h⟩ := Option.bind_eq_some_iff.mp h
  refine E_callI (vs := [.ref a1, .int x1, .int x2]) (rest := []) rfl (by decide) rfl rfl (Nat.le_of_ble_eq_true rfl) (s101 e5) (by decide) ?_
  by_cases c6 : z4.2 = 0
  · rw [if_pos c6] at h
    refine E_jt rfl rfl c6 ?_
    refine E_blk rfl ?_
    refine E_ps 1 (pc' := 23) (l' := [some (.ref x0), some (.int x1), some (.int x2)]) (st' := [.int (-1 : Int32)]) rfl ?_
    exact E_wk (l' := [none, none, none]) trivial (s144_23  h hr)
  · rw [if_neg c6] at h
    refine E_jf rfl rfl c6 ?_
    refine E_blk rfl ?_
    refine E_ps 1 (pc' := 13) (l' := [some (.ref x0), some (.int x1), some (.int x2)]) (st' := [.ref x0]) rfl ?_
    obtain ⟨a7, e8, h⟩ := Option.bind_eq_some_iff.mp h
    refine E_gr k0 (by decide) rfl e8 ?_
    have kf9 : oK a7 9 = true := hk_rty k0 e8 rfl (by decide)
    refine E_gi kf9 (by decide) rfl ?_
    refine E_j rfl rfl ?_
    exact E_wk (l' := [none, none, none]) trivial (s144_23  h hr)

-- 145: ThreePlates.bestRound(III)I
def dn145 (o : xH × Option Value) (r : xS × Int32) : Prop := o = (hk_of r.1, some (.int r.2))
noncomputable def f145_26  (s : xS) : Option (xS × Int32) := some (s, (-1 : Int32))
set_option maxRecDepth 20000 in
theorem s145_26 {sc : Option (Nat × (Nat → Int32))}  {s : xS} {o : xH × Option Value} {r : (xS × Int32)}  (h : f145_26  s = some r) (hr : dn145 o r) : Ev sc 12 145 [] 26 [none, none, none, none] [] (hk_of s) o := by
  unfold f145_26 at h
  refine E_blk rfl ?_
  refine E_ps 1 (pc' := 27) (l' := [none, none, none, none]) (st' := [.int (-1 : Int32)]) rfl ?_
  cases h
  exact E_ret rfl (pg_mt_md (by decide)) rfl hr
noncomputable def f145 (x0 : Nat) (x1 : Int32) (x2 : Int32) (x3 : Int32) (s : xS) : Option (xS × Int32) := ifg (oK x0 11 = true) <| if x3 < 0 then (f145_26  s) else (if x1 ≤ x3 then (f145_26  s) else (if (3 : Int32) ≤ x3 then (f145_26  s) else ((hk_R x0 9).bind fun a4 => (f101 a4 x1 x2 s).bind fun z7 => if z7.2 = 0 then (f145_26  z7.1) else ((hk_R x0 9).bind fun a10 => (hk_R a10 7).bind fun a13 => (aI z7.1 a13 x3).bind fun v15 => some (z7.1, v15)))))
set_option maxRecDepth 20000 in
theorem s145 {sc : Option (Nat × (Nat → Int32))} {x0 : Nat} {x1 : Int32} {x2 : Int32} {x3 : Int32} {s : xS} {r : xS × Int32} (h : f145 x0 x1 x2 x3 s = some r) : Cl sc 12 145 [.ref x0, .int x1, .int x2, .int x3] (hk_of s) (hk_of r.1, some (.int r.2)) := by
  unfold f145 at h
  obtain ⟨k0, h⟩ := ifg_some h
  refine ⟨pg_md 145, [some (.ref x0), some (.int x1), some (.int x2), some (.int x3)], pg_mt_md (by decide), (hk_rcv k0), rfl, ?_⟩
  generalize ho : ((hk_of r.1, some (Value.int r.2)) : xH × Option Value) = o
  have hr : dn145 o r := ho.symm
  refine E_blk rfl ?_
  refine E_ps 1 (pc' := 1) (l' := [some (.ref x0), some (.int x1), some (.int x2), some (.int x3)]) (st' := [.int x3]) rfl ?_
  by_cases c1 : x3 < 0
  · rw [if_pos c1] at h
    refine E_jt rfl rfl c1 ?_
    exact E_wk (l' := [none, none, none, none]) trivial (s145_26  h hr)
  · rw [if_neg c1] at h
    refine E_jf rfl rfl c1 ?_
    refine E_blk rfl ?_
    refine E_ps 2 (pc' := 6) (l' := [some (.ref x0), some (.int x1), some (.int x2), some (.int x3)]) (st' := [.int x1, .int x3]) rfl ?_
    by_cases c2 : x1 ≤ x3
    · rw [if_pos c2] at h
      refine E_jt rfl rfl c2 ?_
      exact E_wk (l' := [none, none, none, none]) trivial (s145_26  h hr)
    · rw [if_neg c2] at h
      refine E_jf rfl rfl c2 ?_
      refine E_blk rfl ?_
      refine E_ps 2 (pc' := 11) (l' := [some (.ref x0), some (.int x1), some (.int x2), some (.int x3)]) (st' := [.int (3 : Int32), .int x3]) rfl ?_
      by_cases c3 : (3 : Int32) ≤ x3
      · rw [if_pos c3] at h
        refine E_jt rfl rfl c3 ?_
        exact E_wk (l' := [none, none, none, none]) trivial (s145_26  h hr)
      · rw [if_neg c3] at h
        refine E_jf rfl rfl c3 ?_
        refine E_blk rfl ?_
        refine E_ps 1 (pc' := 15) (l' := [some (.ref x0), some (.int x1), some (.int x2), some (.int x3)]) (st' := [.ref x0]) rfl ?_
        obtain ⟨a4, e5, h⟩ := Option.bind_eq_some_iff.mp h
        refine E_gr k0 (by decide) rfl e5 ?_
        have kf6 : oK a4 9 = true := hk_rty k0 e5 rfl (by decide)
        refine E_ps 2 (pc' := 20) (l' := [some (.ref x0), some (.int x1), some (.int x2), some (.int x3)]) (st' := [.int x2, .int x1, .ref a4]) rfl ?_
        obtain ⟨z7, e8, h⟩ := Option.bind_eq_some_iff.mp h
        refine E_callI (vs := [.ref a4, .int x1, .int x2]) (rest := []) rfl (by decide) rfl rfl (Nat.le_of_ble_eq_true rfl) (s101 e8) (by decide) ?_
        by_cases c9 : z7.2 = 0
        · rw [if_pos c9] at h
          refine E_jt rfl rfl c9 ?_
          exact E_wk (l' := [none, none, none, none]) trivial (s145_26  h hr)
        · rw [if_neg c9] at h
          refine E_jf rfl rfl c9 ?_
          refine E_blk rfl ?_
          refine E_ps 1 (pc' := 29) (l' := [some (.ref x0), some (.int x1), some (.int x2), some (.int x3)]) (st' := [.ref x0]) rfl ?_
          obtain ⟨a10, e11, h⟩ := Option.bind_eq_some_iff.mp h
          refine E_gr k0 (by decide) rfl e11 ?_
          have kf12 : oK a10 9 = true := hk_rty k0 e11 rfl (by decide)
          obtain ⟨a13, e14, h⟩ := Option.bind_eq_some_iff.mp h
          refine E_gr kf12 (by decide) rfl e14 ?_
          refine E_ps 1 (pc' := 36) (l' := [some (.ref x0), some (.int x1), some (.int x2), some (.int x3)]) (st' := [.int x3, .ref a13]) rfl ?_
          obtain ⟨v15, e16, h⟩ := Option.bind_eq_some_iff.mp h
          refine E_ai e16 ?_
          cases h
          exact E_ret rfl (pg_mt_md (by decide)) rfl hr

-- 146: ThreePlates.hole(II)J
def dn146 (o : xH × Option Value) (r : xS × Int64) : Prop := o = (hk_of r.1, some (.long r.2))
noncomputable def f146_18  (s : xS) : Option (xS × Int64) := some (s, (-1 : Int64))
set_option maxRecDepth 20000 in
theorem s146_18 {sc : Option (Nat × (Nat → Int32))}  {s : xS} {o : xH × Option Value} {r : (xS × Int64)}  (h : f146_18  s = some r) (hr : dn146 o r) : Ev sc 4 146 [] 18 [none, none, none] [] (hk_of s) o := by
  unfold f146_18 at h
  refine E_blk rfl ?_
  refine E_ps 1 (pc' := 21) (l' := [none, none, none]) (st' := [.long (-1 : Int64)]) rfl ?_
  cases h
  exact E_ret rfl (pg_mt_md (by decide)) rfl hr
noncomputable def f146 (x0 : Nat) (x1 : Int32) (x2 : Int32) (s : xS) : Option (xS × Int64) := ifg (oK x0 11 = true) <| (f166 x2 s).bind fun z1 => if z1.2 = 0 then (f146_18  z1.1) else ((hk_R x0 1).bind fun a4 => (f66 a4 x1 z1.1).bind fun z7 => if z7.2 = 0 then (f146_18  z7.1) else ((hk_R x0 8).bind fun a10 => (hk_R x0 5).bind fun a13 => (f30 a10 a13 x1 (-1 : Int32) z7.1).bind fun z16 => (hk_R x0 8).bind fun a18 => (hk_R a18 1).bind fun a21 => (f49 a21 z16.1).bind fun z24 => (hk_R x0 8).bind fun a26 => (hk_R a26 1).bind fun a29 => (f47 a29 z24.1).bind fun z32 => (hk_R x0 8).bind fun a34 => (hk_R a34 1).bind fun a37 => (f171 z32.2 (z32.1.1 a37 11).toInt64 x2 z32.1).bind fun z40 => some (z40.1, z40.2)))
set_option maxRecDepth 20000 in
theorem s146 {sc : Option (Nat × (Nat → Int32))} {x0 : Nat} {x1 : Int32} {x2 : Int32} {s : xS} {r : xS × Int64} (h : f146 x0 x1 x2 s = some r) : Cl sc 4 146 [.ref x0, .int x1, .int x2] (hk_of s) (hk_of r.1, some (.long r.2)) := by
  unfold f146 at h
  obtain ⟨k0, h⟩ := ifg_some h
  refine ⟨pg_md 146, [some (.ref x0), some (.int x1), some (.int x2)], pg_mt_md (by decide), (hk_rcv k0), rfl, ?_⟩
  generalize ho : ((hk_of r.1, some (Value.long r.2)) : xH × Option Value) = o
  have hr : dn146 o r := ho.symm
  refine E_blk rfl ?_
  refine E_ps 1 (pc' := 1) (l' := [some (.ref x0), some (.int x1), some (.int x2)]) (st' := [.int x2]) rfl ?_
  obtain ⟨z1, e2, h⟩ := Option.bind_eq_some_iff.mp h
  refine E_callI (vs := [.int x2]) (rest := []) rfl (by decide) rfl rfl (Nat.le_of_ble_eq_true rfl) (s166 e2) (by decide) ?_
  by_cases c3 : z1.2 = 0
  · rw [if_pos c3] at h
    refine E_jt rfl rfl c3 ?_
    exact E_wk (l' := [none, none, none]) trivial (s146_18  h hr)
  · rw [if_neg c3] at h
    refine E_jf rfl rfl c3 ?_
    refine E_blk rfl ?_
    refine E_ps 1 (pc' := 8) (l' := [some (.ref x0), some (.int x1), some (.int x2)]) (st' := [.ref x0]) rfl ?_
    obtain ⟨a4, e5, h⟩ := Option.bind_eq_some_iff.mp h
    refine E_gr k0 (by decide) rfl e5 ?_
    have kf6 : oK a4 7 = true := hk_rty k0 e5 rfl (by decide)
    refine E_ps 1 (pc' := 12) (l' := [some (.ref x0), some (.int x1), some (.int x2)]) (st' := [.int x1, .ref a4]) rfl ?_
    obtain ⟨z7, e8, h⟩ := Option.bind_eq_some_iff.mp h
    refine E_callI (vs := [.ref a4, .int x1]) (rest := []) rfl (by decide) rfl rfl (Nat.le_of_ble_eq_true rfl) (s66 e8) (by decide) ?_
    by_cases c9 : z7.2 = 0
    · rw [if_pos c9] at h
      refine E_jt rfl rfl c9 ?_
      exact E_wk (l' := [none, none, none]) trivial (s146_18  h hr)
    · rw [if_neg c9] at h
      refine E_jf rfl rfl c9 ?_
      refine E_blk rfl ?_
      refine E_ps 1 (pc' := 23) (l' := [some (.ref x0), some (.int x1), some (.int x2)]) (st' := [.ref x0]) rfl ?_
      obtain ⟨a10, e11, h⟩ := Option.bind_eq_some_iff.mp h
      refine E_gr k0 (by decide) rfl e11 ?_
      have kf12 : oK a10 3 = true := hk_rty k0 e11 rfl (by decide)
      refine E_ps 1 (pc' := 27) (l' := [some (.ref x0), some (.int x1), some (.int x2)]) (st' := [.ref x0, .ref a10]) rfl ?_
      obtain ⟨a13, e14, h⟩ := Option.bind_eq_some_iff.mp h
      refine E_gr k0 (by decide) rfl e14 ?_
      have kf15 : oK a13 0 = true := hk_rty k0 e14 rfl (by decide)
      refine E_ps 2 (pc' := 32) (l' := [some (.ref x0), some (.int x1), some (.int x2)]) (st' := [.int (-1 : Int32), .int x1, .ref a13, .ref a10]) rfl ?_
      obtain ⟨z16, e17, h⟩ := Option.bind_eq_some_iff.mp h
      refine E_callV (vs := [.ref a10, .ref a13, .int x1, .int (-1 : Int32)]) (rest := []) rfl (by decide) rfl rfl (Nat.le_of_ble_eq_true rfl) (s30 e17) (by decide) ?_
      refine E_ps 1 (pc' := 36) (l' := [some (.ref x0), some (.int x1), some (.int x2)]) (st' := [.ref x0]) rfl ?_
      obtain ⟨a18, e19, h⟩ := Option.bind_eq_some_iff.mp h
      refine E_gr k0 (by decide) rfl e19 ?_
      have kf20 : oK a18 3 = true := hk_rty k0 e19 rfl (by decide)
      obtain ⟨a21, e22, h⟩ := Option.bind_eq_some_iff.mp h
      refine E_gr kf20 (by decide) rfl e22 ?_
      have kf23 : oK a21 5 = true := hk_rty kf20 e22 rfl (by decide)
      obtain ⟨z24, e25, h⟩ := Option.bind_eq_some_iff.mp h
      refine E_callV (vs := [.ref a21]) (rest := []) rfl (by decide) rfl rfl (Nat.le_of_ble_eq_true rfl) (s49 e25) (by decide) ?_
      refine E_ps 1 (pc' := 46) (l' := [some (.ref x0), some (.int x1), some (.int x2)]) (st' := [.ref x0]) rfl ?_
      obtain ⟨a26, e27, h⟩ := Option.bind_eq_some_iff.mp h
      refine E_gr k0 (by decide) rfl e27 ?_
      have kf28 : oK a26 3 = true := hk_rty k0 e27 rfl (by decide)
      obtain ⟨a29, e30, h⟩ := Option.bind_eq_some_iff.mp h
      refine E_gr kf28 (by decide) rfl e30 ?_
      have kf31 : oK a29 5 = true := hk_rty kf28 e30 rfl (by decide)
      obtain ⟨z32, e33, h⟩ := Option.bind_eq_some_iff.mp h
      refine E_callL (vs := [.ref a29]) (rest := []) rfl (by decide) rfl rfl (Nat.le_of_ble_eq_true rfl) (s47 e33) (by decide) ?_
      refine E_ps 1 (pc' := 56) (l' := [some (.ref x0), some (.int x1), some (.int x2)]) (st' := [.ref x0, .long z32.2]) rfl ?_
      obtain ⟨a34, e35, h⟩ := Option.bind_eq_some_iff.mp h
      refine E_gr k0 (by decide) rfl e35 ?_
      have kf36 : oK a34 3 = true := hk_rty k0 e35 rfl (by decide)
      obtain ⟨a37, e38, h⟩ := Option.bind_eq_some_iff.mp h
      refine E_gr kf36 (by decide) rfl e38 ?_
      have kf39 : oK a37 5 = true := hk_rty kf36 e38 rfl (by decide)
      refine E_gi kf39 (by decide) rfl ?_
      refine E_ps 2 (pc' := 67) (l' := [some (.ref x0), some (.int x1), some (.int x2)]) (st' := [.int x2, .long (z32.1.1 a37 11).toInt64, .long z32.2]) rfl ?_
      obtain ⟨z40, e41, h⟩ := Option.bind_eq_some_iff.mp h
      refine E_callL (vs := [.long z32.2, .long (z32.1.1 a37 11).toInt64, .int x2]) (rest := []) rfl (by decide) rfl rfl (Nat.le_of_ble_eq_true rfl) (s171 e41) (by decide) ?_
      cases h
      exact E_ret rfl (pg_mt_md (by decide)) rfl hr

-- 147: ThreePlates.edge(IZII)I
def dn147 (o : xH × Option Value) (r : xS × Int32) : Prop := o = (hk_of r.1, some (.int r.2))
noncomputable def f147_34  (s : xS) : Option (xS × Int32) := some (s, (-1 : Int32))
set_option maxRecDepth 20000 in
theorem s147_34 {sc : Option (Nat × (Nat → Int32))}  {s : xS} {o : xH × Option Value} {r : (xS × Int32)}  (h : f147_34  s = some r) (hr : dn147 o r) : Ev sc 3 147 [] 34 [none, none, none, none, none] [] (hk_of s) o := by
  unfold f147_34 at h
  refine E_blk rfl ?_
  refine E_ps 1 (pc' := 35) (l' := [none, none, none, none, none]) (st' := [.int (-1 : Int32)]) rfl ?_
  cases h
  exact E_ret rfl (pg_mt_md (by decide)) rfl hr
noncomputable def f147 (x0 : Nat) (x1 : Int32) (x2 : Int32) (x3 : Int32) (x4 : Int32) (s : xS) : Option (xS × Int32) := ifg (oK x0 11 = true) <| (f166 x4 s).bind fun z1 => if z1.2 = 0 then (f147_34  z1.1) else ((hk_R x0 1).bind fun a4 => (f66 a4 x1 z1.1).bind fun z7 => if z7.2 = 0 then (f147_34  z7.1) else (if x3 < 0 then (f147_34  z7.1) else ((hk_R x0 1).bind fun a11 => if x3 < (z7.1.1 a11 3) then ((hk_R x0 8).bind fun a15 => (hk_R x0 5).bind fun a18 => (f32 a15 a18 x1 x2 x3 z7.1).bind fun z21 => (hk_R x0 8).bind fun a23 => (hk_R a23 1).bind fun a26 => (f57 a26 z21.1).bind fun z29 => (hk_R x0 8).bind fun a31 => (hk_R a31 1).bind fun a34 => (f46 a34 z29.1).bind fun z37 => (hk_R x0 8).bind fun a39 => (hk_R a39 1).bind fun a42 => (f171 (z37.2).toInt64 (z37.1.1 a42 11).toInt64 x4 z37.1).bind fun z45 => some (z45.1, (z45.2).toInt32)) else (f147_34  z7.1))))
set_option maxRecDepth 20000 in
theorem s147 {sc : Option (Nat × (Nat → Int32))} {x0 : Nat} {x1 : Int32} {x2 : Int32} {x3 : Int32} {x4 : Int32} {s : xS} {r : xS × Int32} (h : f147 x0 x1 x2 x3 x4 s = some r) : Cl sc 3 147 [.ref x0, .int x1, .int x2, .int x3, .int x4] (hk_of s) (hk_of r.1, some (.int r.2)) := by
  unfold f147 at h
  obtain ⟨k0, h⟩ := ifg_some h
  refine ⟨pg_md 147, [some (.ref x0), some (.int x1), some (.int x2), some (.int x3), some (.int x4)], pg_mt_md (by decide), (hk_rcv k0), rfl, ?_⟩
  generalize ho : ((hk_of r.1, some (Value.int r.2)) : xH × Option Value) = o
  have hr : dn147 o r := ho.symm
  refine E_blk rfl ?_
  refine E_ps 1 (pc' := 2) (l' := [some (.ref x0), some (.int x1), some (.int x2), some (.int x3), some (.int x4)]) (st' := [.int x4]) rfl ?_
  obtain ⟨z1, e2, h⟩ := Option.bind_eq_some_iff.mp h
  refine E_callI (vs := [.int x4]) (rest := []) rfl (by decide) rfl rfl (Nat.le_of_ble_eq_true rfl) (s166 e2) (by decide) ?_
  by_cases c3 : z1.2 = 0
  · rw [if_pos c3] at h
    refine E_jt rfl rfl c3 ?_
    exact E_wk (l' := [none, none, none, none, none]) trivial (s147_34  h hr)
  · rw [if_neg c3] at h
    refine E_jf rfl rfl c3 ?_
    refine E_blk rfl ?_
    refine E_ps 1 (pc' := 9) (l' := [some (.ref x0), some (.int x1), some (.int x2), some (.int x3), some (.int x4)]) (st' := [.ref x0]) rfl ?_
    obtain ⟨a4, e5, h⟩ := Option.bind_eq_some_iff.mp h
    refine E_gr k0 (by decide) rfl e5 ?_
    have kf6 : oK a4 7 = true := hk_rty k0 e5 rfl (by decide)
    refine E_ps 1 (pc' := 13) (l' := [some (.ref x0), some (.int x1), some (.int x2), some (.int x3), some (.int x4)]) (st' := [.int x1, .ref a4]) rfl ?_
    obtain ⟨z7, e8, h⟩ := Option.bind_eq_some_iff.mp h
    refine E_callI (vs := [.ref a4, .int x1]) (rest := []) rfl (by decide) rfl rfl (Nat.le_of_ble_eq_true rfl) (s66 e8) (by decide) ?_
    by_cases c9 : z7.2 = 0
    · rw [if_pos c9] at h
      refine E_jt rfl rfl c9 ?_
      exact E_wk (l' := [none, none, none, none, none]) trivial (s147_34  h hr)
    · rw [if_neg c9] at h
      refine E_jf rfl rfl c9 ?_
      refine E_blk rfl ?_
      refine E_ps 1 (pc' := 20) (l' := [some (.ref x0), some (.int x1), some (.int x2), some (.int x3), some (.int x4)]) (st' := [.int x3]) rfl ?_
      by_cases c10 : x3 < 0
      · rw [if_pos c10] at h
        refine E_jt rfl rfl c10 ?_
        exact E_wk (l' := [none, none, none, none, none]) trivial (s147_34  h hr)
      · rw [if_neg c10] at h
        refine E_jf rfl rfl c10 ?_
        refine E_blk rfl ?_
        refine E_ps 2 (pc' := 25) (l' := [some (.ref x0), some (.int x1), some (.int x2), some (.int x3), some (.int x4)]) (st' := [.ref x0, .int x3]) rfl ?_
        obtain ⟨a11, e12, h⟩ := Option.bind_eq_some_iff.mp h
        refine E_gr k0 (by decide) rfl e12 ?_
        have kf13 : oK a11 7 = true := hk_rty k0 e12 rfl (by decide)
        refine E_gi kf13 (by decide) rfl ?_
        by_cases c14 : x3 < (z7.1.1 a11 3)
        · rw [if_pos c14] at h
          refine E_jt rfl rfl c14 ?_
          refine E_blk rfl ?_
          refine E_ps 1 (pc' := 37) (l' := [some (.ref x0), some (.int x1), some (.int x2), some (.int x3), some (.int x4)]) (st' := [.ref x0]) rfl ?_
          obtain ⟨a15, e16, h⟩ := Option.bind_eq_some_iff.mp h
          refine E_gr k0 (by decide) rfl e16 ?_
          have kf17 : oK a15 3 = true := hk_rty k0 e16 rfl (by decide)
          refine E_ps 1 (pc' := 41) (l' := [some (.ref x0), some (.int x1), some (.int x2), some (.int x3), some (.int x4)]) (st' := [.ref x0, .ref a15]) rfl ?_
          obtain ⟨a18, e19, h⟩ := Option.bind_eq_some_iff.mp h
          refine E_gr k0 (by decide) rfl e19 ?_
          have kf20 : oK a18 0 = true := hk_rty k0 e19 rfl (by decide)
          refine E_ps 3 (pc' := 47) (l' := [some (.ref x0), some (.int x1), some (.int x2), some (.int x3), some (.int x4)]) (st' := [.int x3, .int x2, .int x1, .ref a18, .ref a15]) rfl ?_
          obtain ⟨z21, e22, h⟩ := Option.bind_eq_some_iff.mp h
          refine E_callV (vs := [.ref a15, .ref a18, .int x1, .int x2, .int x3]) (rest := []) rfl (by decide) rfl rfl (Nat.le_of_ble_eq_true rfl) (s32 e22) (by decide) ?_
          refine E_ps 1 (pc' := 51) (l' := [some (.ref x0), some (.int x1), some (.int x2), some (.int x3), some (.int x4)]) (st' := [.ref x0]) rfl ?_
          obtain ⟨a23, e24, h⟩ := Option.bind_eq_some_iff.mp h
          refine E_gr k0 (by decide) rfl e24 ?_
          have kf25 : oK a23 3 = true := hk_rty k0 e24 rfl (by decide)
          obtain ⟨a26, e27, h⟩ := Option.bind_eq_some_iff.mp h
          refine E_gr kf25 (by decide) rfl e27 ?_
          have kf28 : oK a26 5 = true := hk_rty kf25 e27 rfl (by decide)
          obtain ⟨z29, e30, h⟩ := Option.bind_eq_some_iff.mp h
          refine E_callV (vs := [.ref a26]) (rest := []) rfl (by decide) rfl rfl (Nat.le_of_ble_eq_true rfl) (s57 e30) (by decide) ?_
          refine E_ps 1 (pc' := 61) (l' := [some (.ref x0), some (.int x1), some (.int x2), some (.int x3), some (.int x4)]) (st' := [.ref x0]) rfl ?_
          obtain ⟨a31, e32, h⟩ := Option.bind_eq_some_iff.mp h
          refine E_gr k0 (by decide) rfl e32 ?_
          have kf33 : oK a31 3 = true := hk_rty k0 e32 rfl (by decide)
          obtain ⟨a34, e35, h⟩ := Option.bind_eq_some_iff.mp h
          refine E_gr kf33 (by decide) rfl e35 ?_
          have kf36 : oK a34 5 = true := hk_rty kf33 e35 rfl (by decide)
          obtain ⟨z37, e38, h⟩ := Option.bind_eq_some_iff.mp h
          refine E_callI (vs := [.ref a34]) (rest := []) rfl (by decide) rfl rfl (Nat.le_of_ble_eq_true rfl) (s46 e38) (by decide) ?_
          refine E_ps 2 (pc' := 72) (l' := [some (.ref x0), some (.int x1), some (.int x2), some (.int x3), some (.int x4)]) (st' := [.ref x0, .long (z37.2).toInt64]) rfl ?_
          obtain ⟨a39, e40, h⟩ := Option.bind_eq_some_iff.mp h
          refine E_gr k0 (by decide) rfl e40 ?_
          have kf41 : oK a39 3 = true := hk_rty k0 e40 rfl (by decide)
          obtain ⟨a42, e43, h⟩ := Option.bind_eq_some_iff.mp h
          refine E_gr kf41 (by decide) rfl e43 ?_
          have kf44 : oK a42 5 = true := hk_rty kf41 e43 rfl (by decide)
          refine E_gi kf44 (by decide) rfl ?_
          refine E_ps 2 (pc' := 84) (l' := [some (.ref x0), some (.int x1), some (.int x2), some (.int x3), some (.int x4)]) (st' := [.int x4, .long (z37.1.1 a42 11).toInt64, .long (z37.2).toInt64]) rfl ?_
          obtain ⟨z45, e46, h⟩ := Option.bind_eq_some_iff.mp h
          refine E_callL (vs := [.long (z37.2).toInt64, .long (z37.1.1 a42 11).toInt64, .int x4]) (rest := []) rfl (by decide) rfl rfl (Nat.le_of_ble_eq_true rfl) (s171 e46) (by decide) ?_
          refine E_ps 1 (pc' := 88) (l' := [some (.ref x0), some (.int x1), some (.int x2), some (.int x3), some (.int x4)]) (st' := [.int (z45.2).toInt32]) rfl ?_
          cases h
          exact E_ret rfl (pg_mt_md (by decide)) rfl hr
        · rw [if_neg c14] at h
          refine E_jf rfl rfl c14 ?_
          exact E_wk (l' := [none, none, none, none, none]) trivial (s147_34  h hr)

-- 170: ThreePlates.isShown(I)Z
def dn170 (o : xH × Option Value) (r : xS × Int32) : Prop := o = (hk_of r.1, some (.int r.2))
noncomputable def f170_19 (y0 : Int32) (s : xS) : Option (xS × Int32) := ifg (y0 = 0 ∨ y0 = 1) <| some (s, y0)
set_option maxRecDepth 20000 in
theorem s170_19 {sc : Option (Nat × (Nat → Int32))} {y0 : Int32} {s : xS} {o : xH × Option Value} {r : (xS × Int32)}  (h : f170_19 y0 s = some r) (hr : dn170 o r) : Ev sc 1 170 [] 19 [none] [.int y0] (hk_of s) o := by
  unfold f170_19 at h
  refine E_blk rfl ?_
  obtain ⟨g1, h⟩ := ifg_some h
  cases h
  exact E_ret rfl (pg_mt_md (by decide)) (hk_retz g1 rfl) hr
noncomputable def f170_18  (s : xS) : Option (xS × Int32) := f170_19 (0 : Int32) s
set_option maxRecDepth 20000 in
theorem s170_18 {sc : Option (Nat × (Nat → Int32))}  {s : xS} {o : xH × Option Value} {r : (xS × Int32)}  (h : f170_18  s = some r) (hr : dn170 o r) : Ev sc 1 170 [] 18 [none] [] (hk_of s) o := by
  unfold f170_18 at h
  refine E_blk rfl ?_
  refine E_ps 1 (pc' := 19) (l' := [none]) (st' := [.int (0 : Int32)]) rfl ?_
  exact E_wk (l' := [none]) trivial (s170_19  h hr)
noncomputable def f170 (x0 : Int32) (s : xS) : Option (xS × Int32) :=  if x0 < (-9999 : Int32) then (f170_18  s) else (if (9999 : Int32) < x0 then (f170_18  s) else (f170_19 (1 : Int32) s))
set_option maxRecDepth 20000 in
theorem s170 {sc : Option (Nat × (Nat → Int32))} {x0 : Int32} {s : xS} {r : xS × Int32} (h : f170 x0 s = some r) : Cl sc 1 170 [.int x0] (hk_of s) (hk_of r.1, some (.int r.2)) := by
  unfold f170 at h
  refine ⟨pg_md 170, [some (.int x0)], pg_mt_md (by decide), rfl, rfl, ?_⟩
  generalize ho : ((hk_of r.1, some (Value.int r.2)) : xH × Option Value) = o
  have hr : dn170 o r := ho.symm
  refine E_blk rfl ?_
  refine E_ps 2 (pc' := 4) (l' := [some (.int x0)]) (st' := [.int (-9999 : Int32), .int x0]) rfl ?_
  by_cases c1 : x0 < (-9999 : Int32)
  · rw [if_pos c1] at h
    refine E_jt rfl rfl c1 ?_
    exact E_wk (l' := [none]) trivial (s170_18  h hr)
  · rw [if_neg c1] at h
    refine E_jf rfl rfl c1 ?_
    refine E_blk rfl ?_
    refine E_ps 2 (pc' := 11) (l' := [some (.int x0)]) (st' := [.int (9999 : Int32), .int x0]) rfl ?_
    by_cases c2 : (9999 : Int32) < x0
    · rw [if_pos c2] at h
      refine E_jt rfl rfl c2 ?_
      exact E_wk (l' := [none]) trivial (s170_18  h hr)
    · rw [if_neg c2] at h
      refine E_jf rfl rfl c2 ?_
      refine E_blk rfl ?_
      refine E_ps 1 (pc' := 15) (l' := [some (.int x0)]) (st' := [.int (1 : Int32)]) rfl ?_
      refine E_j rfl rfl ?_
      exact E_wk (l' := [none]) trivial (s170_19  h hr)

-- 148: ThreePlates.square(IIIII)I
def dn148 (o : xH × Option Value) (r : xS × Int32) : Prop := o = (hk_of r.1, some (.int r.2))
noncomputable def f148_29  (s : xS) : Option (xS × Int32) := some (s, (-100000 : Int32))
set_option maxRecDepth 20000 in
theorem s148_29 {sc : Option (Nat × (Nat → Int32))}  {s : xS} {o : xH × Option Value} {r : (xS × Int32)}  (h : f148_29  s = some r) (hr : dn148 o r) : Ev sc 2 148 [] 29 [none, none, none, none, none, none] [] (hk_of s) o := by
  unfold f148_29 at h
  refine E_blk rfl ?_
  refine E_ps 1 (pc' := 31) (l' := [none, none, none, none, none, none]) (st' := [.int (-100000 : Int32)]) rfl ?_
  cases h
  exact E_ret rfl (pg_mt_md (by decide)) rfl hr
noncomputable def f148 (x0 : Nat) (x1 : Int32) (x2 : Int32) (x3 : Int32) (x4 : Int32) (x5 : Int32) (s : xS) : Option (xS × Int32) := ifg (oK x0 11 = true) <| (f166 x5 s).bind fun z1 => if z1.2 = 0 then (f148_29  z1.1) else ((f170 x1 z1.1).bind fun z4 => if z4.2 = 0 then (f148_29  z4.1) else ((f170 x2 z4.1).bind fun z7 => if z7.2 = 0 then (f148_29  z7.1) else ((f170 x3 z7.1).bind fun z10 => if z10.2 = 0 then (f148_29  z10.1) else (if x4 = 0 then ((f171 ((x1 + x3) - x2).toInt64 (2 : Int64) x5 z10.1).bind fun z14 => some (z14.1, (z14.2).toInt32)) else (if x4 = 1 then ((f171 ((x1 + x2) - x3).toInt64 (2 : Int64) x5 z10.1).bind fun z17 => some (z17.1, (z17.2).toInt32)) else (if x4 = 2 then ((f171 ((x2 + x3) - x1).toInt64 (2 : Int64) x5 z10.1).bind fun z20 => some (z20.1, (z20.2).toInt32)) else (some (z10.1, (-100000 : Int32)))))))))
set_option maxRecDepth 20000 in
theorem s148 {sc : Option (Nat × (Nat → Int32))} {x0 : Nat} {x1 : Int32} {x2 : Int32} {x3 : Int32} {x4 : Int32} {x5 : Int32} {s : xS} {r : xS × Int32} (h : f148 x0 x1 x2 x3 x4 x5 s = some r) : Cl sc 2 148 [.ref x0, .int x1, .int x2, .int x3, .int x4, .int x5] (hk_of s) (hk_of r.1, some (.int r.2)) := by
  unfold f148 at h
  obtain ⟨k0, h⟩ := ifg_some h
  refine ⟨pg_md 148, [some (.ref x0), some (.int x1), some (.int x2), some (.int x3), some (.int x4), some (.int x5)], pg_mt_md (by decide), (hk_rcv k0), rfl, ?_⟩
  generalize ho : ((hk_of r.1, some (Value.int r.2)) : xH × Option Value) = o
  have hr : dn148 o r := ho.symm
  refine E_blk rfl ?_
  refine E_ps 1 (pc' := 2) (l' := [some (.ref x0), some (.int x1), some (.int x2), some (.int x3), some (.int x4), some (.int x5)]) (st' := [.int x5]) rfl ?_
  obtain ⟨z1, e2, h⟩ := Option.bind_eq_some_iff.mp h
  refine E_callI (vs := [.int x5]) (rest := []) rfl (by decide) rfl rfl (Nat.le_of_ble_eq_true rfl) (s166 e2) (by decide) ?_
  by_cases c3 : z1.2 = 0
  · rw [if_pos c3] at h
    refine E_jt rfl rfl c3 ?_
    exact E_wk (l' := [none, none, none, none, none, none]) trivial (s148_29  h hr)
  · rw [if_neg c3] at h
    refine E_jf rfl rfl c3 ?_
    refine E_blk rfl ?_
    refine E_ps 1 (pc' := 9) (l' := [some (.ref x0), some (.int x1), some (.int x2), some (.int x3), some (.int x4), some (.int x5)]) (st' := [.int x1]) rfl ?_
    obtain ⟨z4, e5, h⟩ := Option.bind_eq_some_iff.mp h
    refine E_callI (vs := [.int x1]) (rest := []) rfl (by decide) rfl rfl (Nat.le_of_ble_eq_true rfl) (s170 e5) (by decide) ?_
    by_cases c6 : z4.2 = 0
    · rw [if_pos c6] at h
      refine E_jt rfl rfl c6 ?_
      exact E_wk (l' := [none, none, none, none, none, none]) trivial (s148_29  h hr)
    · rw [if_neg c6] at h
      refine E_jf rfl rfl c6 ?_
      refine E_blk rfl ?_
      refine E_ps 1 (pc' := 16) (l' := [some (.ref x0), some (.int x1), some (.int x2), some (.int x3), some (.int x4), some (.int x5)]) (st' := [.int x2]) rfl ?_
      obtain ⟨z7, e8, h⟩ := Option.bind_eq_some_iff.mp h
      refine E_callI (vs := [.int x2]) (rest := []) rfl (by decide) rfl rfl (Nat.le_of_ble_eq_true rfl) (s170 e8) (by decide) ?_
      by_cases c9 : z7.2 = 0
      · rw [if_pos c9] at h
        refine E_jt rfl rfl c9 ?_
        exact E_wk (l' := [none, none, none, none, none, none]) trivial (s148_29  h hr)
      · rw [if_neg c9] at h
        refine E_jf rfl rfl c9 ?_
        refine E_blk rfl ?_
        refine E_ps 1 (pc' := 23) (l' := [some (.ref x0), some (.int x1), some (.int x2), some (.int x3), some (.int x4), some (.int x5)]) (st' := [.int x3]) rfl ?_
        obtain ⟨z10, e11, h⟩ := Option.bind_eq_some_iff.mp h
        refine E_callI (vs := [.int x3]) (rest := []) rfl (by decide) rfl rfl (Nat.le_of_ble_eq_true rfl) (s170 e11) (by decide) ?_
        by_cases c12 : z10.2 = 0
        · rw [if_pos c12] at h
          refine E_jt rfl rfl c12 ?_
          exact E_wk (l' := [none, none, none, none, none, none]) trivial (s148_29  h hr)
        · rw [if_neg c12] at h
          refine E_jf rfl rfl c12 ?_
          refine E_blk rfl ?_
          refine E_ps 1 (pc' := 34) (l' := [some (.ref x0), some (.int x1), some (.int x2), some (.int x3), some (.int x4), some (.int x5)]) (st' := [.int x4]) rfl ?_
          by_cases c13 : x4 = 0
          · rw [if_pos c13] at h
            refine E_j (pc' := 60) rfl (by rw [c13]; rfl) ?_
            refine E_blk rfl ?_
            refine E_ps 8 (pc' := 71) (l' := [some (.ref x0), some (.int x1), some (.int x2), some (.int x3), some (.int x4), some (.int x5)]) (st' := [.int x5, .long (2 : Int64), .long ((x1 + x3) - x2).toInt64]) rfl ?_
            obtain ⟨z14, e15, h⟩ := Option.bind_eq_some_iff.mp h
            refine E_callL (vs := [.long ((x1 + x3) - x2).toInt64, .long (2 : Int64), .int x5]) (rest := []) rfl (by decide) rfl rfl (Nat.le_of_ble_eq_true rfl) (s171 e15) (by decide) ?_
            refine E_ps 1 (pc' := 75) (l' := [some (.ref x0), some (.int x1), some (.int x2), some (.int x3), some (.int x4), some (.int x5)]) (st' := [.int (z14.2).toInt32]) rfl ?_
            cases h
            exact E_ret rfl (pg_mt_md (by decide)) rfl hr
          · rw [if_neg c13] at h
            by_cases c16 : x4 = 1
            · rw [if_pos c16] at h
              refine E_j (pc' := 76) rfl (by rw [c16]; rfl) ?_
              refine E_blk rfl ?_
              refine E_ps 8 (pc' := 87) (l' := [some (.ref x0), some (.int x1), some (.int x2), some (.int x3), some (.int x4), some (.int x5)]) (st' := [.int x5, .long (2 : Int64), .long ((x1 + x2) - x3).toInt64]) rfl ?_
              obtain ⟨z17, e18, h⟩ := Option.bind_eq_some_iff.mp h
              refine E_callL (vs := [.long ((x1 + x2) - x3).toInt64, .long (2 : Int64), .int x5]) (rest := []) rfl (by decide) rfl rfl (Nat.le_of_ble_eq_true rfl) (s171 e18) (by decide) ?_
              refine E_ps 1 (pc' := 91) (l' := [some (.ref x0), some (.int x1), some (.int x2), some (.int x3), some (.int x4), some (.int x5)]) (st' := [.int (z17.2).toInt32]) rfl ?_
              cases h
              exact E_ret rfl (pg_mt_md (by decide)) rfl hr
            · rw [if_neg c16] at h
              by_cases c19 : x4 = 2
              · rw [if_pos c19] at h
                refine E_j (pc' := 92) rfl (by rw [c19]; rfl) ?_
                refine E_blk rfl ?_
                refine E_ps 8 (pc' := 103) (l' := [some (.ref x0), some (.int x1), some (.int x2), some (.int x3), some (.int x4), some (.int x5)]) (st' := [.int x5, .long (2 : Int64), .long ((x2 + x3) - x1).toInt64]) rfl ?_
                obtain ⟨z20, e21, h⟩ := Option.bind_eq_some_iff.mp h
                refine E_callL (vs := [.long ((x2 + x3) - x1).toInt64, .long (2 : Int64), .int x5]) (rest := []) rfl (by decide) rfl rfl (Nat.le_of_ble_eq_true rfl) (s171 e21) (by decide) ?_
                refine E_ps 1 (pc' := 107) (l' := [some (.ref x0), some (.int x1), some (.int x2), some (.int x3), some (.int x4), some (.int x5)]) (st' := [.int (z20.2).toInt32]) rfl ?_
                cases h
                exact E_ret rfl (pg_mt_md (by decide)) rfl hr
              · rw [if_neg c19] at h
                refine E_j (pc' := 108) rfl (hk_tsw [0, 1, 2] (by intro z hz; simp only [List.mem_cons, List.not_mem_nil, or_false] at hz; rcases hz with rfl | rfl | rfl <;> assumption) (by decide) (by decide +kernel)) ?_
                refine E_blk rfl ?_
                refine E_ps 1 (pc' := 110) (l' := [some (.ref x0), some (.int x1), some (.int x2), some (.int x3), some (.int x4), some (.int x5)]) (st' := [.int (-100000 : Int32)]) rfl ?_
                cases h
                exact E_ret rfl (pg_mt_md (by decide)) rfl hr

-- 149: ThreePlates.cut(II)I
def dn149 (o : xH × Option Value) (r : xS × Int32) : Prop := o = (hk_of r.1, some (.int r.2))
noncomputable def f149 (x0 : Nat) (x1 : Int32) (x2 : Int32) (s : xS) : Option (xS × Int32) := ifg (oK x0 11 = true) <| (hk_R x0 12).bind fun a1 => (f21 a1 x1 x2 s).bind fun z4 => some (z4.1, z4.2)
set_option maxRecDepth 20000 in
theorem s149 {sc : Option (Nat × (Nat → Int32))} {x0 : Nat} {x1 : Int32} {x2 : Int32} {s : xS} {r : xS × Int32} (h : f149 x0 x1 x2 s = some r) : Cl sc 2 149 [.ref x0, .int x1, .int x2] (hk_of s) (hk_of r.1, some (.int r.2)) := by
  unfold f149 at h
  obtain ⟨k0, h⟩ := ifg_some h
  refine ⟨pg_md 149, [some (.ref x0), some (.int x1), some (.int x2)], pg_mt_md (by decide), (hk_rcv k0), rfl, ?_⟩
  generalize ho : ((hk_of r.1, some (Value.int r.2)) : xH × Option Value) = o
  have hr : dn149 o r := ho.symm
  refine E_blk rfl ?_
  refine E_ps 1 (pc' := 1) (l' := [some (.ref x0), some (.int x1), some (.int x2)]) (st' := [.ref x0]) rfl ?_
  obtain ⟨a1, e2, h⟩ := Option.bind_eq_some_iff.mp h
  refine E_gr k0 (by decide) rfl e2 ?_
  have kf3 : oK a1 2 = true := hk_rty k0 e2 rfl (by decide)
  refine E_ps 2 (pc' := 6) (l' := [some (.ref x0), some (.int x1), some (.int x2)]) (st' := [.int x2, .int x1, .ref a1]) rfl ?_
  obtain ⟨z4, e5, h⟩ := Option.bind_eq_some_iff.mp h
  refine E_callI (vs := [.ref a1, .int x1, .int x2]) (rest := []) rfl (by decide) rfl rfl (Nat.le_of_ble_eq_true rfl) (s21 e5) (by decide) ?_
  cases h
  exact E_ret rfl (pg_mt_md (by decide)) rfl hr

-- 150: ThreePlates.clear()I
def dn150 (o : xH × Option Value) (r : xS × Int32) : Prop := o = (hk_of r.1, some (.int r.2))
noncomputable def f150 (x0 : Nat) (s : xS) : Option (xS × Int32) := ifg (oK x0 11 = true) <| (hk_R x0 12).bind fun a1 => (hk_R x0 12).bind fun a4 => (pI s a4 2 (0 : Int32)).bind fun t7 => some (t7, (s.1 a1 2))
set_option maxRecDepth 20000 in
theorem s150 {sc : Option (Nat × (Nat → Int32))} {x0 : Nat} {s : xS} {r : xS × Int32} (h : f150 x0 s = some r) : Cl sc 1 150 [.ref x0] (hk_of s) (hk_of r.1, some (.int r.2)) := by
  unfold f150 at h
  obtain ⟨k0, h⟩ := ifg_some h
  refine ⟨pg_md 150, [some (.ref x0), none], pg_mt_md (by decide), (hk_rcv k0), rfl, ?_⟩
  generalize ho : ((hk_of r.1, some (Value.int r.2)) : xH × Option Value) = o
  have hr : dn150 o r := ho.symm
  refine E_blk rfl ?_
  refine E_ps 1 (pc' := 1) (l' := [some (.ref x0), none]) (st' := [.ref x0]) rfl ?_
  obtain ⟨a1, e2, h⟩ := Option.bind_eq_some_iff.mp h
  refine E_gr k0 (by decide) rfl e2 ?_
  have kf3 : oK a1 2 = true := hk_rty k0 e2 rfl (by decide)
  refine E_gi kf3 (by decide) rfl ?_
  refine E_ps 2 (pc' := 9) (l' := [some (.ref x0), some (.int (s.1 a1 2))]) (st' := [.ref x0]) rfl ?_
  obtain ⟨a4, e5, h⟩ := Option.bind_eq_some_iff.mp h
  refine E_gr k0 (by decide) rfl e5 ?_
  have kf6 : oK a4 2 = true := hk_rty k0 e5 rfl (by decide)
  refine E_ps 1 (pc' := 13) (l' := [some (.ref x0), some (.int (s.1 a1 2))]) (st' := [.int (0 : Int32), .ref a4]) rfl ?_
  obtain ⟨t7, e8, h⟩ := Option.bind_eq_some_iff.mp h
  refine E_pi kf6 (by decide) rfl e8 ?_
  refine E_ps 1 (pc' := 17) (l' := [some (.ref x0), some (.int (s.1 a1 2))]) (st' := [.int (s.1 a1 2)]) rfl ?_
  cases h
  exact E_ret rfl (pg_mt_md (by decide)) rfl hr

-- 151: ThreePlates.fits()I
def dn151 (o : xH × Option Value) (r : xS × Int32) : Prop := o = (hk_of r.1, some (.int r.2))
noncomputable def f151 (x0 : Nat) (s : xS) : Option (xS × Int32) := ifg (oK x0 11 = true) <| (hk_R x0 12).bind fun a1 => (f23 a1 s).bind fun z4 => some (z4.1, z4.2)
set_option maxRecDepth 20000 in
theorem s151 {sc : Option (Nat × (Nat → Int32))} {x0 : Nat} {s : xS} {r : xS × Int32} (h : f151 x0 s = some r) : Cl sc 3 151 [.ref x0] (hk_of s) (hk_of r.1, some (.int r.2)) := by
  unfold f151 at h
  obtain ⟨k0, h⟩ := ifg_some h
  refine ⟨pg_md 151, [some (.ref x0)], pg_mt_md (by decide), (hk_rcv k0), rfl, ?_⟩
  generalize ho : ((hk_of r.1, some (Value.int r.2)) : xH × Option Value) = o
  have hr : dn151 o r := ho.symm
  refine E_blk rfl ?_
  refine E_ps 1 (pc' := 1) (l' := [some (.ref x0)]) (st' := [.ref x0]) rfl ?_
  obtain ⟨a1, e2, h⟩ := Option.bind_eq_some_iff.mp h
  refine E_gr k0 (by decide) rfl e2 ?_
  have kf3 : oK a1 2 = true := hk_rty k0 e2 rfl (by decide)
  obtain ⟨z4, e5, h⟩ := Option.bind_eq_some_iff.mp h
  refine E_callI (vs := [.ref a1]) (rest := []) rfl (by decide) rfl rfl (Nat.le_of_ble_eq_true rfl) (s23 e5) (by decide) ?_
  cases h
  exact E_ret rfl (pg_mt_md (by decide)) rfl hr

-- 152: ThreePlates.tight(I)I
def dn152 (o : xH × Option Value) (r : xS × Int32) : Prop := o = (hk_of r.1, some (.int r.2))
noncomputable def f152_27 (y0 : Int32) (s : xS) : Option (xS × Int32) := some (s, y0)
set_option maxRecDepth 20000 in
theorem s152_27 {sc : Option (Nat × (Nat → Int32))} {y0 : Int32} {s : xS} {o : xH × Option Value} {r : (xS × Int32)}  (h : f152_27 y0 s = some r) (hr : dn152 o r) : Ev sc 3 152 [] 27 [none, none] [.int y0] (hk_of s) o := by
  unfold f152_27 at h
  refine E_blk rfl ?_
  cases h
  exact E_ret rfl (pg_mt_md (by decide)) rfl hr
noncomputable def f152_20 (y0 : Int32) (y1 : Nat) (s : xS) : Option (xS × Int32) := (f24 y1 y0 s).bind fun z1 => f152_27 z1.2 z1.1
set_option maxRecDepth 20000 in
theorem s152_20 {sc : Option (Nat × (Nat → Int32))} {y0 : Int32} {y1 : Nat} {s : xS} {o : xH × Option Value} {r : (xS × Int32)} (ky1 : oK y1 2 = true) (h : f152_20 y0 y1 s = some r) (hr : dn152 o r) : Ev sc 3 152 [] 20 [none, none] [.int y0, .ref y1] (hk_of s) o := by
  unfold f152_20 at h
  refine E_blk rfl ?_
  obtain ⟨z1, e2, h⟩ := Option.bind_eq_some_iff.mp h
  refine E_callI (vs := [.ref y1, .int y0]) (rest := []) rfl (by decide) rfl rfl (Nat.le_of_ble_eq_true rfl) (s24 e2) (by decide) ?_
  refine E_j rfl rfl ?_
  exact E_wk (l' := [none, none]) trivial (s152_27  h hr)
noncomputable def f152 (x0 : Nat) (x1 : Int32) (s : xS) : Option (xS × Int32) := ifg (oK x0 11 = true) <| (f166 x1 s).bind fun z1 => if z1.2 = 0 then (f152_27 (-1 : Int32) z1.1) else ((hk_R x0 12).bind fun a4 => if x1 = 0 then (f152_20 (1 : Int32) a4 z1.1) else (f152_20 (0 : Int32) a4 z1.1))
set_option maxRecDepth 20000 in
theorem s152 {sc : Option (Nat × (Nat → Int32))} {x0 : Nat} {x1 : Int32} {s : xS} {r : xS × Int32} (h : f152 x0 x1 s = some r) : Cl sc 3 152 [.ref x0, .int x1] (hk_of s) (hk_of r.1, some (.int r.2)) := by
  unfold f152 at h
  obtain ⟨k0, h⟩ := ifg_some h
  refine ⟨pg_md 152, [some (.ref x0), some (.int x1)], pg_mt_md (by decide), (hk_rcv k0), rfl, ?_⟩
  generalize ho : ((hk_of r.1, some (Value.int r.2)) : xH × Option Value) = o
  have hr : dn152 o r := ho.symm
  refine E_blk rfl ?_
  refine E_ps 1 (pc' := 1) (l' := [some (.ref x0), some (.int x1)]) (st' := [.int x1]) rfl ?_
  obtain ⟨z1, e2, h⟩ := Option.bind_eq_some_iff.mp h
  refine E_callI (vs := [.int x1]) (rest := []) rfl (by decide) rfl rfl (Nat.le_of_ble_eq_true rfl) (s166 e2) (by decide) ?_
  by_cases c3 : z1.2 = 0
  · rw [if_pos c3] at h
    refine E_jt rfl rfl c3 ?_
    refine E_blk rfl ?_
    refine E_ps 1 (pc' := 27) (l' := [some (.ref x0), some (.int x1)]) (st' := [.int (-1 : Int32)]) rfl ?_
    exact E_wk (l' := [none, none]) trivial (s152_27  h hr)
  · rw [if_neg c3] at h
    refine E_jf rfl rfl c3 ?_
    refine E_blk rfl ?_
    refine E_ps 1 (pc' := 8) (l' := [some (.ref x0), some (.int x1)]) (st' := [.ref x0]) rfl ?_
    obtain ⟨a4, e5, h⟩ := Option.bind_eq_some_iff.mp h
    refine E_gr k0 (by decide) rfl e5 ?_
    have kf6 : oK a4 2 = true := hk_rty k0 e5 rfl (by decide)
    refine E_ps 1 (pc' := 12) (l' := [some (.ref x0), some (.int x1)]) (st' := [.int x1, .ref a4]) rfl ?_
    by_cases c7 : x1 = 0
    · rw [if_pos c7] at h
      refine E_jt rfl rfl c7 ?_
      refine E_blk rfl ?_
      refine E_ps 1 (pc' := 16) (l' := [some (.ref x0), some (.int x1)]) (st' := [.int (1 : Int32), .ref a4]) rfl ?_
      refine E_j rfl rfl ?_
      exact E_wk (l' := [none, none]) trivial (s152_20 kf6 h hr)
    · rw [if_neg c7] at h
      refine E_jf rfl rfl c7 ?_
      refine E_blk rfl ?_
      refine E_ps 1 (pc' := 20) (l' := [some (.ref x0), some (.int x1)]) (st' := [.int (0 : Int32), .ref a4]) rfl ?_
      exact E_wk (l' := [none, none]) trivial (s152_20 kf6 h hr)

-- 153: ThreePlates.stand(IIIII)Z
def dn153 (o : xH × Option Value) (r : xS × Int32) : Prop := o = (hk_of r.1, some (.int r.2))
def dn153_77 (sc : Option (Nat × (Nat → Int32))) (x0 : Nat) (x1 : Int32) (x2 : Int32) (x3 : Int32) (x4 : Int32) (x5 : Int32) (o : xH × Option Value) (r : ((Int32 × xS) ⊕ (xS × Int32))) : Prop := match r with
  | .inl q => Ev sc 3 153 [] 77 [some (.ref x0), some (.int x1), some (.int x2), some (.int x3), some (.int x4), some (.int x5), some (.int q.1), none] [] (hk_of q.2) o
  | .inr r => dn153 o r
noncomputable def f153_77 (x0 : Nat) (x1 : Int32) (x2 : Int32) (x3 : Int32) (x4 : Int32) (x5 : Int32) (x6 : Int32) (s : xS) : Option ((Int32 × xS) ⊕ (xS × Int32)) := (hk_R x0 1).bind fun a1 => (f68 a1 s).bind fun z4 => if z4.2 ≤ x6 then (Option.map Sum.inr (some (z4.1, (1 : Int32)))) else ((hk_R x0 1).bind fun a7 => (f69 a7 x6 x2 z4.1).bind fun z10 => (hk_R x0 1).bind fun a12 => (f69 a12 x6 x3 z10.1).bind fun z15 => (hk_R x0 1).bind fun a17 => (f69 a17 x6 x4 z15.1).bind fun z20 => (hk_R x0 5).bind fun a22 => (hk_R a22 2).bind fun a25 => (wI z20.1 a25 ((x1 * (25 : Int32)) + x6) ((x5 * (if z20.2 < (if z15.2 < z10.2 then z15.2 else z10.2) then z20.2 else (if z15.2 < z10.2 then z15.2 else z10.2))) / (4 : Int32))).bind fun t27 => some (Sum.inl ((x6 + (1 : Int32)), t27)))
set_option maxRecDepth 20000 in
theorem s153_77 {sc : Option (Nat × (Nat → Int32))} {x0 : Nat} {x1 : Int32} {x2 : Int32} {x3 : Int32} {x4 : Int32} {x5 : Int32} {x6 : Int32} {s : xS} {o : xH × Option Value} {r : ((Int32 × xS) ⊕ (xS × Int32))} (k0 : oK x0 11 = true) (h : f153_77 x0 x1 x2 x3 x4 x5 x6 s = some r) (hr : dn153_77 sc x0 x1 x2 x3 x4 x5 o r) : Ev sc 3 153 [] 77 [some (.ref x0), some (.int x1), some (.int x2), some (.int x3), some (.int x4), some (.int x5), some (.int x6), none] [] (hk_of s) o := by
  unfold f153_77 at h
  refine E_blk rfl ?_
  refine E_ps 2 (pc' := 80) (l' := [some (.ref x0), some (.int x1), some (.int x2), some (.int x3), some (.int x4), some (.int x5), some (.int x6), none]) (st' := [.ref x0, .int x6]) rfl ?_
  obtain ⟨a1, e2, h⟩ := Option.bind_eq_some_iff.mp h
  refine E_gr k0 (by decide) rfl e2 ?_
  have kf3 : oK a1 7 = true := hk_rty k0 e2 rfl (by decide)
  obtain ⟨z4, e5, h⟩ := Option.bind_eq_some_iff.mp h
  refine E_callI (vs := [.ref a1]) (rest := [.int x6]) rfl (by decide) rfl rfl (Nat.le_of_ble_eq_true rfl) (s68 e5) (by decide) ?_
  by_cases c6 : z4.2 ≤ x6
  · rw [if_pos c6] at h
    refine E_jt rfl rfl c6 ?_
    obtain ⟨r, h, hr⟩ := lf_some (Dn := dn153_77 sc x0 x1 x2 x3 x4 x5 o) h hr
    refine E_blk rfl ?_
    refine E_ps 1 (pc' := 161) (l' := [some (.ref x0), some (.int x1), some (.int x2), some (.int x3), some (.int x4), some (.int x5), some (.int x6), none]) (st' := [.int (1 : Int32)]) rfl ?_
    cases h
    exact E_ret rfl (pg_mt_md (by decide)) rfl hr
  · rw [if_neg c6] at h
    refine E_jf rfl rfl c6 ?_
    refine E_blk rfl ?_
    refine E_ps 1 (pc' := 90) (l' := [some (.ref x0), some (.int x1), some (.int x2), some (.int x3), some (.int x4), some (.int x5), some (.int x6), none]) (st' := [.ref x0]) rfl ?_
    obtain ⟨a7, e8, h⟩ := Option.bind_eq_some_iff.mp h
    refine E_gr k0 (by decide) rfl e8 ?_
    have kf9 : oK a7 7 = true := hk_rty k0 e8 rfl (by decide)
    refine E_ps 2 (pc' := 96) (l' := [some (.ref x0), some (.int x1), some (.int x2), some (.int x3), some (.int x4), some (.int x5), some (.int x6), none]) (st' := [.int x2, .int x6, .ref a7]) rfl ?_
    obtain ⟨z10, e11, h⟩ := Option.bind_eq_some_iff.mp h
    refine E_callI (vs := [.ref a7, .int x6, .int x2]) (rest := []) rfl (by decide) rfl rfl (Nat.le_of_ble_eq_true rfl) (s69 e11) (by decide) ?_
    refine E_ps 1 (pc' := 100) (l' := [some (.ref x0), some (.int x1), some (.int x2), some (.int x3), some (.int x4), some (.int x5), some (.int x6), none]) (st' := [.ref x0, .int z10.2]) rfl ?_
    obtain ⟨a12, e13, h⟩ := Option.bind_eq_some_iff.mp h
    refine E_gr k0 (by decide) rfl e13 ?_
    have kf14 : oK a12 7 = true := hk_rty k0 e13 rfl (by decide)
    refine E_ps 2 (pc' := 106) (l' := [some (.ref x0), some (.int x1), some (.int x2), some (.int x3), some (.int x4), some (.int x5), some (.int x6), none]) (st' := [.int x3, .int x6, .ref a12, .int z10.2]) rfl ?_
    obtain ⟨z15, e16, h⟩ := Option.bind_eq_some_iff.mp h
    refine E_callI (vs := [.ref a12, .int x6, .int x3]) (rest := [.int z10.2]) rfl (by decide) rfl rfl (Nat.le_of_ble_eq_true rfl) (s69 e16) (by decide) ?_
    refine E_ma (st' := [.int (if z15.2 < z10.2 then z15.2 else z10.2)]) rfl (by decide) rfl ?_
    refine E_ps 3 (pc' := 117) (l' := [some (.ref x0), some (.int x1), some (.int x2), some (.int x3), some (.int x4), some (.int x5), some (.int x6), some (.int (if z15.2 < z10.2 then z15.2 else z10.2))]) (st' := [.ref x0, .int (if z15.2 < z10.2 then z15.2 else z10.2)]) rfl ?_
    obtain ⟨a17, e18, h⟩ := Option.bind_eq_some_iff.mp h
    refine E_gr k0 (by decide) rfl e18 ?_
    have kf19 : oK a17 7 = true := hk_rty k0 e18 rfl (by decide)
    refine E_ps 2 (pc' := 124) (l' := [some (.ref x0), some (.int x1), some (.int x2), some (.int x3), some (.int x4), some (.int x5), some (.int x6), some (.int (if z15.2 < z10.2 then z15.2 else z10.2))]) (st' := [.int x4, .int x6, .ref a17, .int (if z15.2 < z10.2 then z15.2 else z10.2)]) rfl ?_
    obtain ⟨z20, e21, h⟩ := Option.bind_eq_some_iff.mp h
    refine E_callI (vs := [.ref a17, .int x6, .int x4]) (rest := [.int (if z15.2 < z10.2 then z15.2 else z10.2)]) rfl (by decide) rfl rfl (Nat.le_of_ble_eq_true rfl) (s69 e21) (by decide) ?_
    refine E_ma (st' := [.int (if z20.2 < (if z15.2 < z10.2 then z15.2 else z10.2) then z20.2 else (if z15.2 < z10.2 then z15.2 else z10.2))]) rfl (by decide) rfl ?_
    refine E_ps 2 (pc' := 133) (l' := [some (.ref x0), some (.int x1), some (.int x2), some (.int x3), some (.int x4), some (.int x5), some (.int x6), some (.int (if z20.2 < (if z15.2 < z10.2 then z15.2 else z10.2) then z20.2 else (if z15.2 < z10.2 then z15.2 else z10.2)))]) (st' := [.ref x0]) rfl ?_
    obtain ⟨a22, e23, h⟩ := Option.bind_eq_some_iff.mp h
    refine E_gr k0 (by decide) rfl e23 ?_
    have kf24 : oK a22 0 = true := hk_rty k0 e23 rfl (by decide)
    obtain ⟨a25, e26, h⟩ := Option.bind_eq_some_iff.mp h
    refine E_gr kf24 (by decide) rfl e26 ?_
    refine E_ps 9 (pc' := 152) (l' := [some (.ref x0), some (.int x1), some (.int x2), some (.int x3), some (.int x4), some (.int x5), some (.int x6), some (.int (if z20.2 < (if z15.2 < z10.2 then z15.2 else z10.2) then z20.2 else (if z15.2 < z10.2 then z15.2 else z10.2)))]) (st' := [.int (4 : Int32), .int (x5 * (if z20.2 < (if z15.2 < z10.2 then z15.2 else z10.2) then z20.2 else (if z15.2 < z10.2 then z15.2 else z10.2))), .int ((x1 * (25 : Int32)) + x6), .ref a25]) rfl ?_
    refine E_idiv (by decide) ?_
    obtain ⟨t27, e28, h⟩ := Option.bind_eq_some_iff.mp h
    refine E_wi e28 ?_
    refine E_ps 1 (pc' := 157) (l' := [some (.ref x0), some (.int x1), some (.int x2), some (.int x3), some (.int x4), some (.int x5), some (.int (x6 + (1 : Int32))), some (.int (if z20.2 < (if z15.2 < z10.2 then z15.2 else z10.2) then z20.2 else (if z15.2 < z10.2 then z15.2 else z10.2)))]) (st' := []) rfl ?_
    refine E_j rfl rfl ?_
    cases h
    exact E_wk (l' := [some (.ref x0), some (.int x1), some (.int x2), some (.int x3), some (.int x4), some (.int x5), some (.int (x6 + (1 : Int32))), none]) ⟨rfl, rfl, rfl, rfl, rfl, rfl, rfl, trivial⟩ hr
theorem s153_77_w {sc : Option (Nat × (Nat → Int32))} {x0 : Nat} {x1 : Int32} {x2 : Int32} {x3 : Int32} {x4 : Int32} {x5 : Int32} {x6 : Int32} {s : xS} {o : xH × Option Value} {r : (xS × Int32)} (k0 : oK x0 11 = true) (h : whl (fun q : (Int32 × xS) => f153_77 x0 x1 x2 x3 x4 x5 q.1 q.2) (x6, s) = some r) (hr : dn153 o r) : Ev sc 3 153 [] 77 [some (.ref x0), some (.int x1), some (.int x2), some (.int x3), some (.int x4), some (.int x5), some (.int x6), none] [] (hk_of s) o := by
  refine whl_snd (E := fun q : (Int32 × xS) => Ev sc 3 153 [] 77 [some (.ref x0), some (.int x1), some (.int x2), some (.int x3), some (.int x4), some (.int x5), some (.int q.1), none] [] (hk_of q.2) o) (P := fun r => dn153 o r) (fun q r h hr => ?_) h hr
  exact s153_77 k0 h (by cases r <;> exact hr)
noncomputable def f153_68  (s : xS) : Option (xS × Int32) := some (s, (0 : Int32))
set_option maxRecDepth 20000 in
theorem s153_68 {sc : Option (Nat × (Nat → Int32))}  {s : xS} {o : xH × Option Value} {r : (xS × Int32)}  (h : f153_68  s = some r) (hr : dn153 o r) : Ev sc 3 153 [] 68 [none, none, none, none, none, none, none, none] [] (hk_of s) o := by
  unfold f153_68 at h
  refine E_blk rfl ?_
  refine E_ps 1 (pc' := 69) (l' := [none, none, none, none, none, none, none, none]) (st' := [.int (0 : Int32)]) rfl ?_
  cases h
  exact E_ret rfl (pg_mt_md (by decide)) rfl hr
noncomputable def f153_37  (s : xS) : Option (xS × Int32) := some (s, (0 : Int32))
set_option maxRecDepth 20000 in
theorem s153_37 {sc : Option (Nat × (Nat → Int32))}  {s : xS} {o : xH × Option Value} {r : (xS × Int32)}  (h : f153_37  s = some r) (hr : dn153 o r) : Ev sc 3 153 [] 37 [none, none, none, none, none, none, none, none] [] (hk_of s) o := by
  unfold f153_37 at h
  refine E_blk rfl ?_
  refine E_ps 1 (pc' := 38) (l' := [none, none, none, none, none, none, none, none]) (st' := [.int (0 : Int32)]) rfl ?_
  cases h
  exact E_ret rfl (pg_mt_md (by decide)) rfl hr
noncomputable def f153 (x0 : Nat) (x1 : Int32) (x2 : Int32) (x3 : Int32) (x4 : Int32) (x5 : Int32) (s : xS) : Option (xS × Int32) := ifg (oK x0 11 = true) <| (hk_R x0 1).bind fun a1 => (f67 a1 x1 x2 s).bind fun z4 => if z4.2 = 0 then (f153_37  z4.1) else ((hk_R x0 1).bind fun a7 => (f67 a7 x1 x3 z4.1).bind fun z10 => if z10.2 = 0 then (f153_37  z10.1) else ((hk_R x0 1).bind fun a13 => (f67 a13 x1 x4 z10.1).bind fun z16 => if z16.2 = 0 then (f153_37  z16.1) else (if x2 = x3 then (f153_68  z16.1) else (if x3 = x4 then (f153_68  z16.1) else (if x2 = x4 then (f153_68  z16.1) else (if x5 < 0 then (f153_68  z16.1) else (if x5 ≤ (9 : Int32) then ((f164 x0 z16.1).bind fun z24 => whl (fun q : (Int32 × xS) => f153_77 x0 x1 x2 x3 x4 x5 q.1 q.2) ((0 : Int32), z24.1)) else (f153_68  z16.1))))))))
set_option maxRecDepth 20000 in
theorem s153 {sc : Option (Nat × (Nat → Int32))} {x0 : Nat} {x1 : Int32} {x2 : Int32} {x3 : Int32} {x4 : Int32} {x5 : Int32} {s : xS} {r : xS × Int32} (h : f153 x0 x1 x2 x3 x4 x5 s = some r) : Cl sc 3 153 [.ref x0, .int x1, .int x2, .int x3, .int x4, .int x5] (hk_of s) (hk_of r.1, some (.int r.2)) := by
  unfold f153 at h
  obtain ⟨k0, h⟩ := ifg_some h
  refine ⟨pg_md 153, [some (.ref x0), some (.int x1), some (.int x2), some (.int x3), some (.int x4), some (.int x5), none, none], pg_mt_md (by decide), (hk_rcv k0), rfl, ?_⟩
  generalize ho : ((hk_of r.1, some (Value.int r.2)) : xH × Option Value) = o
  have hr : dn153 o r := ho.symm
  refine E_blk rfl ?_
  refine E_ps 1 (pc' := 1) (l' := [some (.ref x0), some (.int x1), some (.int x2), some (.int x3), some (.int x4), some (.int x5), none, none]) (st' := [.ref x0]) rfl ?_
  obtain ⟨a1, e2, h⟩ := Option.bind_eq_some_iff.mp h
  refine E_gr k0 (by decide) rfl e2 ?_
  have kf3 : oK a1 7 = true := hk_rty k0 e2 rfl (by decide)
  refine E_ps 2 (pc' := 6) (l' := [some (.ref x0), some (.int x1), some (.int x2), some (.int x3), some (.int x4), some (.int x5), none, none]) (st' := [.int x2, .int x1, .ref a1]) rfl ?_
  obtain ⟨z4, e5, h⟩ := Option.bind_eq_some_iff.mp h
  refine E_callI (vs := [.ref a1, .int x1, .int x2]) (rest := []) rfl (by decide) rfl rfl (Nat.le_of_ble_eq_true rfl) (s67 e5) (by decide) ?_
  by_cases c6 : z4.2 = 0
  · rw [if_pos c6] at h
    refine E_jt rfl rfl c6 ?_
    exact E_wk (l' := [none, none, none, none, none, none, none, none]) trivial (s153_37  h hr)
  · rw [if_neg c6] at h
    refine E_jf rfl rfl c6 ?_
    refine E_blk rfl ?_
    refine E_ps 1 (pc' := 13) (l' := [some (.ref x0), some (.int x1), some (.int x2), some (.int x3), some (.int x4), some (.int x5), none, none]) (st' := [.ref x0]) rfl ?_
    obtain ⟨a7, e8, h⟩ := Option.bind_eq_some_iff.mp h
    refine E_gr k0 (by decide) rfl e8 ?_
    have kf9 : oK a7 7 = true := hk_rty k0 e8 rfl (by decide)
    refine E_ps 2 (pc' := 18) (l' := [some (.ref x0), some (.int x1), some (.int x2), some (.int x3), some (.int x4), some (.int x5), none, none]) (st' := [.int x3, .int x1, .ref a7]) rfl ?_
    obtain ⟨z10, e11, h⟩ := Option.bind_eq_some_iff.mp h
    refine E_callI (vs := [.ref a7, .int x1, .int x3]) (rest := []) rfl (by decide) rfl rfl (Nat.le_of_ble_eq_true rfl) (s67 e11) (by decide) ?_
    by_cases c12 : z10.2 = 0
    · rw [if_pos c12] at h
      refine E_jt rfl rfl c12 ?_
      exact E_wk (l' := [none, none, none, none, none, none, none, none]) trivial (s153_37  h hr)
    · rw [if_neg c12] at h
      refine E_jf rfl rfl c12 ?_
      refine E_blk rfl ?_
      refine E_ps 1 (pc' := 25) (l' := [some (.ref x0), some (.int x1), some (.int x2), some (.int x3), some (.int x4), some (.int x5), none, none]) (st' := [.ref x0]) rfl ?_
      obtain ⟨a13, e14, h⟩ := Option.bind_eq_some_iff.mp h
      refine E_gr k0 (by decide) rfl e14 ?_
      have kf15 : oK a13 7 = true := hk_rty k0 e14 rfl (by decide)
      refine E_ps 2 (pc' := 31) (l' := [some (.ref x0), some (.int x1), some (.int x2), some (.int x3), some (.int x4), some (.int x5), none, none]) (st' := [.int x4, .int x1, .ref a13]) rfl ?_
      obtain ⟨z16, e17, h⟩ := Option.bind_eq_some_iff.mp h
      refine E_callI (vs := [.ref a13, .int x1, .int x4]) (rest := []) rfl (by decide) rfl rfl (Nat.le_of_ble_eq_true rfl) (s67 e17) (by decide) ?_
      by_cases c18 : z16.2 = 0
      · rw [if_pos c18] at h
        refine E_jt rfl rfl c18 ?_
        exact E_wk (l' := [none, none, none, none, none, none, none, none]) trivial (s153_37  h hr)
      · rw [if_neg c18] at h
        refine E_jf rfl rfl c18 ?_
        refine E_blk rfl ?_
        refine E_ps 2 (pc' := 41) (l' := [some (.ref x0), some (.int x1), some (.int x2), some (.int x3), some (.int x4), some (.int x5), none, none]) (st' := [.int x3, .int x2]) rfl ?_
        by_cases c19 : x2 = x3
        · rw [if_pos c19] at h
          refine E_jt rfl rfl c19 ?_
          exact E_wk (l' := [none, none, none, none, none, none, none, none]) trivial (s153_68  h hr)
        · rw [if_neg c19] at h
          refine E_jf rfl rfl c19 ?_
          refine E_blk rfl ?_
          refine E_ps 2 (pc' := 47) (l' := [some (.ref x0), some (.int x1), some (.int x2), some (.int x3), some (.int x4), some (.int x5), none, none]) (st' := [.int x4, .int x3]) rfl ?_
          by_cases c20 : x3 = x4
          · rw [if_pos c20] at h
            refine E_jt rfl rfl c20 ?_
            exact E_wk (l' := [none, none, none, none, none, none, none, none]) trivial (s153_68  h hr)
          · rw [if_neg c20] at h
            refine E_jf rfl rfl c20 ?_
            refine E_blk rfl ?_
            refine E_ps 2 (pc' := 53) (l' := [some (.ref x0), some (.int x1), some (.int x2), some (.int x3), some (.int x4), some (.int x5), none, none]) (st' := [.int x4, .int x2]) rfl ?_
            by_cases c21 : x2 = x4
            · rw [if_pos c21] at h
              refine E_jt rfl rfl c21 ?_
              exact E_wk (l' := [none, none, none, none, none, none, none, none]) trivial (s153_68  h hr)
            · rw [if_neg c21] at h
              refine E_jf rfl rfl c21 ?_
              refine E_blk rfl ?_
              refine E_ps 1 (pc' := 58) (l' := [some (.ref x0), some (.int x1), some (.int x2), some (.int x3), some (.int x4), some (.int x5), none, none]) (st' := [.int x5]) rfl ?_
              by_cases c22 : x5 < 0
              · rw [if_pos c22] at h
                refine E_jt rfl rfl c22 ?_
                exact E_wk (l' := [none, none, none, none, none, none, none, none]) trivial (s153_68  h hr)
              · rw [if_neg c22] at h
                refine E_jf rfl rfl c22 ?_
                refine E_blk rfl ?_
                refine E_ps 2 (pc' := 65) (l' := [some (.ref x0), some (.int x1), some (.int x2), some (.int x3), some (.int x4), some (.int x5), none, none]) (st' := [.int (9 : Int32), .int x5]) rfl ?_
                by_cases c23 : x5 ≤ (9 : Int32)
                · rw [if_pos c23] at h
                  refine E_jt rfl rfl c23 ?_
                  refine E_blk rfl ?_
                  refine E_ps 1 (pc' := 71) (l' := [some (.ref x0), some (.int x1), some (.int x2), some (.int x3), some (.int x4), some (.int x5), none, none]) (st' := [.ref x0]) rfl ?_
                  obtain ⟨z24, e25, h⟩ := Option.bind_eq_some_iff.mp h
                  refine E_callV (vs := [.ref x0]) (rest := []) rfl (by decide) rfl rfl (Nat.le_of_ble_eq_true rfl) (s164 e25) (by decide) ?_
                  refine E_ps 2 (pc' := 77) (l' := [some (.ref x0), some (.int x1), some (.int x2), some (.int x3), some (.int x4), some (.int x5), some (.int (0 : Int32)), none]) (st' := []) rfl ?_
                  exact E_wk (l' := [some (.ref x0), some (.int x1), some (.int x2), some (.int x3), some (.int x4), some (.int x5), some (.int (0 : Int32)), none]) ⟨rfl, rfl, rfl, rfl, rfl, rfl, rfl, trivial⟩ (s153_77_w k0 h hr)
                · rw [if_neg c23] at h
                  refine E_jf rfl rfl c23 ?_
                  exact E_wk (l' := [none, none, none, none, none, none, none, none]) trivial (s153_68  h hr)

-- 154: ThreePlates.deepest(II)I
def dn154 (o : xH × Option Value) (r : xS × Int32) : Prop := o = (hk_of r.1, some (.int r.2))
noncomputable def f154_20  (s : xS) : Option (xS × Int32) := some (s, (-1 : Int32))
set_option maxRecDepth 20000 in
theorem s154_20 {sc : Option (Nat × (Nat → Int32))}  {s : xS} {o : xH × Option Value} {r : (xS × Int32)}  (h : f154_20  s = some r) (hr : dn154 o r) : Ev sc 6 154 [] 20 [none, none, none] [] (hk_of s) o := by
  unfold f154_20 at h
  refine E_blk rfl ?_
  refine E_ps 1 (pc' := 21) (l' := [none, none, none]) (st' := [.int (-1 : Int32)]) rfl ?_
  cases h
  exact E_ret rfl (pg_mt_md (by decide)) rfl hr
noncomputable def f154 (x0 : Nat) (x1 : Int32) (x2 : Int32) (s : xS) : Option (xS × Int32) := ifg (oK x0 11 = true) <| (hk_R x0 3).bind fun a1 => (f39 a1 x1 s).bind fun z4 => if z4.2 = 0 then (f154_20  z4.1) else (if x2 < 0 then (f154_20  z4.1) else (if x2 ≤ (2 : Int32) then ((hk_R x0 9).bind fun a9 => (hk_R x0 3).bind fun a12 => (hk_R a12 0).bind fun a15 => (aR a15 x1).bind fun a17 => ifg (oK a17 6 = true) <| (f105 a9 a17 z4.1).bind fun z20 => if x2 = 0 then ((hk_R x0 9).bind fun a23 => some (z20.1, (z20.1.1 a23 12))) else ((hk_R x0 9).bind fun a26 => (hk_R x0 9).bind fun a29 => (f171 (z20.1.1 a26 13).toInt64 (z20.1.1 a29 14).toInt64 (x2 - (1 : Int32)) z20.1).bind fun z32 => some (z32.1, (z32.2).toInt32))) else (f154_20  z4.1)))
set_option maxRecDepth 20000 in
theorem s154 {sc : Option (Nat × (Nat → Int32))} {x0 : Nat} {x1 : Int32} {x2 : Int32} {s : xS} {r : xS × Int32} (h : f154 x0 x1 x2 s = some r) : Cl sc 6 154 [.ref x0, .int x1, .int x2] (hk_of s) (hk_of r.1, some (.int r.2)) := by
  unfold f154 at h
  obtain ⟨k0, h⟩ := ifg_some h
  refine ⟨pg_md 154, [some (.ref x0), some (.int x1), some (.int x2)], pg_mt_md (by decide), (hk_rcv k0), rfl, ?_⟩
  generalize ho : ((hk_of r.1, some (Value.int r.2)) : xH × Option Value) = o
  have hr : dn154 o r := ho.symm
  refine E_blk rfl ?_
  refine E_ps 1 (pc' := 1) (l' := [some (.ref x0), some (.int x1), some (.int x2)]) (st' := [.ref x0]) rfl ?_
  obtain ⟨a1, e2, h⟩ := Option.bind_eq_some_iff.mp h
  refine E_gr k0 (by decide) rfl e2 ?_
  have kf3 : oK a1 4 = true := hk_rty k0 e2 rfl (by decide)
  refine E_ps 1 (pc' := 5) (l' := [some (.ref x0), some (.int x1), some (.int x2)]) (st' := [.int x1, .ref a1]) rfl ?_
  obtain ⟨z4, e5, h⟩ := Option.bind_eq_some_iff.mp h
  refine E_callI (vs := [.ref a1, .int x1]) (rest := []) rfl (by decide) rfl rfl (Nat.le_of_ble_eq_true rfl) (s39 e5) (by decide) ?_
  by_cases c6 : z4.2 = 0
  · rw [if_pos c6] at h
    refine E_jt rfl rfl c6 ?_
    exact E_wk (l' := [none, none, none]) trivial (s154_20  h hr)
  · rw [if_neg c6] at h
    refine E_jf rfl rfl c6 ?_
    refine E_blk rfl ?_
    refine E_ps 1 (pc' := 12) (l' := [some (.ref x0), some (.int x1), some (.int x2)]) (st' := [.int x2]) rfl ?_
    by_cases c7 : x2 < 0
    · rw [if_pos c7] at h
      refine E_jt rfl rfl c7 ?_
      exact E_wk (l' := [none, none, none]) trivial (s154_20  h hr)
    · rw [if_neg c7] at h
      refine E_jf rfl rfl c7 ?_
      refine E_blk rfl ?_
      refine E_ps 2 (pc' := 17) (l' := [some (.ref x0), some (.int x1), some (.int x2)]) (st' := [.int (2 : Int32), .int x2]) rfl ?_
      by_cases c8 : x2 ≤ (2 : Int32)
      · rw [if_pos c8] at h
        refine E_jt rfl rfl c8 ?_
        refine E_blk rfl ?_
        refine E_ps 1 (pc' := 23) (l' := [some (.ref x0), some (.int x1), some (.int x2)]) (st' := [.ref x0]) rfl ?_
        obtain ⟨a9, e10, h⟩ := Option.bind_eq_some_iff.mp h
        refine E_gr k0 (by decide) rfl e10 ?_
        have kf11 : oK a9 9 = true := hk_rty k0 e10 rfl (by decide)
        refine E_ps 1 (pc' := 27) (l' := [some (.ref x0), some (.int x1), some (.int x2)]) (st' := [.ref x0, .ref a9]) rfl ?_
        obtain ⟨a12, e13, h⟩ := Option.bind_eq_some_iff.mp h
        refine E_gr k0 (by decide) rfl e13 ?_
        have kf14 : oK a12 4 = true := hk_rty k0 e13 rfl (by decide)
        obtain ⟨a15, e16, h⟩ := Option.bind_eq_some_iff.mp h
        refine E_gr kf14 (by decide) rfl e16 ?_
        refine E_ps 1 (pc' := 34) (l' := [some (.ref x0), some (.int x1), some (.int x2)]) (st' := [.int x1, .ref a15, .ref a9]) rfl ?_
        obtain ⟨a17, e18, h⟩ := Option.bind_eq_some_iff.mp h
        refine E_ar e18 ?_
        obtain ⟨g19, h⟩ := ifg_some h
        obtain ⟨z20, e21, h⟩ := Option.bind_eq_some_iff.mp h
        refine E_callV (vs := [.ref a9, .ref a17]) (rest := []) rfl (by decide) rfl rfl (Nat.le_of_ble_eq_true rfl) (s105 e21) (by decide) ?_
        refine E_ps 1 (pc' := 39) (l' := [some (.ref x0), some (.int x1), some (.int x2)]) (st' := [.int x2]) rfl ?_
        by_cases c22 : x2 = 0
        · rw [if_pos c22] at h
          refine E_jt rfl rfl c22 ?_
          refine E_blk rfl ?_
          refine E_ps 1 (pc' := 43) (l' := [some (.ref x0), some (.int x1), some (.int x2)]) (st' := [.ref x0]) rfl ?_
          obtain ⟨a23, e24, h⟩ := Option.bind_eq_some_iff.mp h
          refine E_gr k0 (by decide) rfl e24 ?_
          have kf25 : oK a23 9 = true := hk_rty k0 e24 rfl (by decide)
          refine E_gi kf25 (by decide) rfl ?_
          cases h
          exact E_ret rfl (pg_mt_md (by decide)) rfl hr
        · rw [if_neg c22] at h
          refine E_jf rfl rfl c22 ?_
          refine E_blk rfl ?_
          refine E_ps 1 (pc' := 51) (l' := [some (.ref x0), some (.int x1), some (.int x2)]) (st' := [.ref x0]) rfl ?_
          obtain ⟨a26, e27, h⟩ := Option.bind_eq_some_iff.mp h
          refine E_gr k0 (by decide) rfl e27 ?_
          have kf28 : oK a26 9 = true := hk_rty k0 e27 rfl (by decide)
          refine E_gi kf28 (by decide) rfl ?_
          refine E_ps 2 (pc' := 59) (l' := [some (.ref x0), some (.int x1), some (.int x2)]) (st' := [.ref x0, .long (z20.1.1 a26 13).toInt64]) rfl ?_
          obtain ⟨a29, e30, h⟩ := Option.bind_eq_some_iff.mp h
          refine E_gr k0 (by decide) rfl e30 ?_
          have kf31 : oK a29 9 = true := hk_rty k0 e30 rfl (by decide)
          refine E_gi kf31 (by decide) rfl ?_
          refine E_ps 4 (pc' := 69) (l' := [some (.ref x0), some (.int x1), some (.int x2)]) (st' := [.int (x2 - (1 : Int32)), .long (z20.1.1 a29 14).toInt64, .long (z20.1.1 a26 13).toInt64]) rfl ?_
          obtain ⟨z32, e33, h⟩ := Option.bind_eq_some_iff.mp h
          refine E_callL (vs := [.long (z20.1.1 a26 13).toInt64, .long (z20.1.1 a29 14).toInt64, .int (x2 - (1 : Int32))]) (rest := []) rfl (by decide) rfl rfl (Nat.le_of_ble_eq_true rfl) (s171 e33) (by decide) ?_
          refine E_ps 1 (pc' := 73) (l' := [some (.ref x0), some (.int x1), some (.int x2)]) (st' := [.int (z32.2).toInt32]) rfl ?_
          cases h
          exact E_ret rfl (pg_mt_md (by decide)) rfl hr
      · rw [if_neg c8] at h
        refine E_jf rfl rfl c8 ?_
        exact E_wk (l' := [none, none, none]) trivial (s154_20  h hr)

-- 155: ThreePlates.sight(IIIII)I
def dn155 (o : xH × Option Value) (r : xS × Int32) : Prop := o = (hk_of r.1, some (.int r.2))
noncomputable def f155_33  (s : xS) : Option (xS × Int32) := some (s, (-1 : Int32))
set_option maxRecDepth 20000 in
theorem s155_33 {sc : Option (Nat × (Nat → Int32))}  {s : xS} {o : xH × Option Value} {r : (xS × Int32)}  (h : f155_33  s = some r) (hr : dn155 o r) : Ev sc 3 155 [] 33 [none, none, none, none, none, none] [] (hk_of s) o := by
  unfold f155_33 at h
  refine E_blk rfl ?_
  refine E_ps 1 (pc' := 34) (l' := [none, none, none, none, none, none]) (st' := [.int (-1 : Int32)]) rfl ?_
  cases h
  exact E_ret rfl (pg_mt_md (by decide)) rfl hr
noncomputable def f155_54  (s : xS) : Option (xS × Int32) := some (s, (-1 : Int32))
set_option maxRecDepth 20000 in
theorem s155_54 {sc : Option (Nat × (Nat → Int32))}  {s : xS} {o : xH × Option Value} {r : (xS × Int32)}  (h : f155_54  s = some r) (hr : dn155 o r) : Ev sc 3 155 [] 54 [none, none, none, none, none, none] [] (hk_of s) o := by
  unfold f155_54 at h
  refine E_blk rfl ?_
  refine E_ps 1 (pc' := 55) (l' := [none, none, none, none, none, none]) (st' := [.int (-1 : Int32)]) rfl ?_
  cases h
  exact E_ret rfl (pg_mt_md (by decide)) rfl hr
noncomputable def f155 (x0 : Nat) (x1 : Int32) (x2 : Int32) (x3 : Int32) (x4 : Int32) (x5 : Int32) (s : xS) : Option (xS × Int32) := ifg (oK x0 11 = true) <| (hk_R x0 1).bind fun a1 => (f66 a1 x1 s).bind fun z4 => if z4.2 = 0 then (f155_33  z4.1) else ((f168 x2 z4.1).bind fun z7 => if z7.2 = 0 then (f155_33  z7.1) else ((f169 x3 z7.1).bind fun z10 => if z10.2 = 0 then (f155_33  z10.1) else ((f169 x4 z10.1).bind fun z13 => if z13.2 = 0 then (f155_33  z13.1) else (if x5 < 0 then (f155_54  z13.1) else ((hk_R x0 1).bind fun a17 => (f68 a17 z13.1).bind fun z20 => if x5 < ((1 : Int32) <<< (z20.2 &&& 31)) then ((hk_R x0 10).bind fun a23 => (f110 a23 x1 x2 x3 x4 x5 z20.1).bind fun z26 => some (z26.1, z26.2)) else (f155_54  z20.1))))))
set_option maxRecDepth 20000 in
theorem s155 {sc : Option (Nat × (Nat → Int32))} {x0 : Nat} {x1 : Int32} {x2 : Int32} {x3 : Int32} {x4 : Int32} {x5 : Int32} {s : xS} {r : xS × Int32} (h : f155 x0 x1 x2 x3 x4 x5 s = some r) : Cl sc 3 155 [.ref x0, .int x1, .int x2, .int x3, .int x4, .int x5] (hk_of s) (hk_of r.1, some (.int r.2)) := by
  unfold f155 at h
  obtain ⟨k0, h⟩ := ifg_some h
  refine ⟨pg_md 155, [some (.ref x0), some (.int x1), some (.int x2), some (.int x3), some (.int x4), some (.int x5)], pg_mt_md (by decide), (hk_rcv k0), rfl, ?_⟩
  generalize ho : ((hk_of r.1, some (Value.int r.2)) : xH × Option Value) = o
  have hr : dn155 o r := ho.symm
  refine E_blk rfl ?_
  refine E_ps 1 (pc' := 1) (l' := [some (.ref x0), some (.int x1), some (.int x2), some (.int x3), some (.int x4), some (.int x5)]) (st' := [.ref x0]) rfl ?_
  obtain ⟨a1, e2, h⟩ := Option.bind_eq_some_iff.mp h
  refine E_gr k0 (by decide) rfl e2 ?_
  have kf3 : oK a1 7 = true := hk_rty k0 e2 rfl (by decide)
  refine E_ps 1 (pc' := 5) (l' := [some (.ref x0), some (.int x1), some (.int x2), some (.int x3), some (.int x4), some (.int x5)]) (st' := [.int x1, .ref a1]) rfl ?_
  obtain ⟨z4, e5, h⟩ := Option.bind_eq_some_iff.mp h
  refine E_callI (vs := [.ref a1, .int x1]) (rest := []) rfl (by decide) rfl rfl (Nat.le_of_ble_eq_true rfl) (s66 e5) (by decide) ?_
  by_cases c6 : z4.2 = 0
  · rw [if_pos c6] at h
    refine E_jt rfl rfl c6 ?_
    exact E_wk (l' := [none, none, none, none, none, none]) trivial (s155_33  h hr)
  · rw [if_neg c6] at h
    refine E_jf rfl rfl c6 ?_
    refine E_blk rfl ?_
    refine E_ps 1 (pc' := 12) (l' := [some (.ref x0), some (.int x1), some (.int x2), some (.int x3), some (.int x4), some (.int x5)]) (st' := [.int x2]) rfl ?_
    obtain ⟨z7, e8, h⟩ := Option.bind_eq_some_iff.mp h
    refine E_callI (vs := [.int x2]) (rest := []) rfl (by decide) rfl rfl (Nat.le_of_ble_eq_true rfl) (s168 e8) (by decide) ?_
    by_cases c9 : z7.2 = 0
    · rw [if_pos c9] at h
      refine E_jt rfl rfl c9 ?_
      exact E_wk (l' := [none, none, none, none, none, none]) trivial (s155_33  h hr)
    · rw [if_neg c9] at h
      refine E_jf rfl rfl c9 ?_
      refine E_blk rfl ?_
      refine E_ps 1 (pc' := 19) (l' := [some (.ref x0), some (.int x1), some (.int x2), some (.int x3), some (.int x4), some (.int x5)]) (st' := [.int x3]) rfl ?_
      obtain ⟨z10, e11, h⟩ := Option.bind_eq_some_iff.mp h
      refine E_callI (vs := [.int x3]) (rest := []) rfl (by decide) rfl rfl (Nat.le_of_ble_eq_true rfl) (s169 e11) (by decide) ?_
      by_cases c12 : z10.2 = 0
      · rw [if_pos c12] at h
        refine E_jt rfl rfl c12 ?_
        exact E_wk (l' := [none, none, none, none, none, none]) trivial (s155_33  h hr)
      · rw [if_neg c12] at h
        refine E_jf rfl rfl c12 ?_
        refine E_blk rfl ?_
        refine E_ps 1 (pc' := 27) (l' := [some (.ref x0), some (.int x1), some (.int x2), some (.int x3), some (.int x4), some (.int x5)]) (st' := [.int x4]) rfl ?_
        obtain ⟨z13, e14, h⟩ := Option.bind_eq_some_iff.mp h
        refine E_callI (vs := [.int x4]) (rest := []) rfl (by decide) rfl rfl (Nat.le_of_ble_eq_true rfl) (s169 e14) (by decide) ?_
        by_cases c15 : z13.2 = 0
        · rw [if_pos c15] at h
          refine E_jt rfl rfl c15 ?_
          exact E_wk (l' := [none, none, none, none, none, none]) trivial (s155_33  h hr)
        · rw [if_neg c15] at h
          refine E_jf rfl rfl c15 ?_
          refine E_blk rfl ?_
          refine E_ps 1 (pc' := 37) (l' := [some (.ref x0), some (.int x1), some (.int x2), some (.int x3), some (.int x4), some (.int x5)]) (st' := [.int x5]) rfl ?_
          by_cases c16 : x5 < 0
          · rw [if_pos c16] at h
            refine E_jt rfl rfl c16 ?_
            exact E_wk (l' := [none, none, none, none, none, none]) trivial (s155_54  h hr)
          · rw [if_neg c16] at h
            refine E_jf rfl rfl c16 ?_
            refine E_blk rfl ?_
            refine E_ps 3 (pc' := 44) (l' := [some (.ref x0), some (.int x1), some (.int x2), some (.int x3), some (.int x4), some (.int x5)]) (st' := [.ref x0, .int (1 : Int32), .int x5]) rfl ?_
            obtain ⟨a17, e18, h⟩ := Option.bind_eq_some_iff.mp h
            refine E_gr k0 (by decide) rfl e18 ?_
            have kf19 : oK a17 7 = true := hk_rty k0 e18 rfl (by decide)
            obtain ⟨z20, e21, h⟩ := Option.bind_eq_some_iff.mp h
            refine E_callI (vs := [.ref a17]) (rest := [.int (1 : Int32), .int x5]) rfl (by decide) rfl rfl (Nat.le_of_ble_eq_true rfl) (s68 e21) (by decide) ?_
            refine E_ps 1 (pc' := 51) (l' := [some (.ref x0), some (.int x1), some (.int x2), some (.int x3), some (.int x4), some (.int x5)]) (st' := [.int ((1 : Int32) <<< (z20.2 &&& 31)), .int x5]) rfl ?_
            by_cases c22 : x5 < ((1 : Int32) <<< (z20.2 &&& 31))
            · rw [if_pos c22] at h
              refine E_jt rfl rfl c22 ?_
              refine E_blk rfl ?_
              refine E_ps 1 (pc' := 57) (l' := [some (.ref x0), some (.int x1), some (.int x2), some (.int x3), some (.int x4), some (.int x5)]) (st' := [.ref x0]) rfl ?_
              obtain ⟨a23, e24, h⟩ := Option.bind_eq_some_iff.mp h
              refine E_gr k0 (by decide) rfl e24 ?_
              have kf25 : oK a23 10 = true := hk_rty k0 e24 rfl (by decide)
              refine E_ps 5 (pc' := 67) (l' := [some (.ref x0), some (.int x1), some (.int x2), some (.int x3), some (.int x4), some (.int x5)]) (st' := [.int x5, .int x4, .int x3, .int x2, .int x1, .ref a23]) rfl ?_
              obtain ⟨z26, e27, h⟩ := Option.bind_eq_some_iff.mp h
              refine E_callI (vs := [.ref a23, .int x1, .int x2, .int x3, .int x4, .int x5]) (rest := []) rfl (by decide) rfl rfl (Nat.le_of_ble_eq_true rfl) (s110 e27) (by decide) ?_
              cases h
              exact E_ret rfl (pg_mt_md (by decide)) rfl hr
            · rw [if_neg c22] at h
              refine E_jf rfl rfl c22 ?_
              exact E_wk (l' := [none, none, none, none, none, none]) trivial (s155_54  h hr)

-- 156: ThreePlates.worlds()I
def dn156 (o : xH × Option Value) (r : xS × Int32) : Prop := o = (hk_of r.1, some (.int r.2))
noncomputable def f156_22 (y0 : Int32) (s : xS) : Option (xS × Int32) := some (s, y0)
set_option maxRecDepth 20000 in
theorem s156_22 {sc : Option (Nat × (Nat → Int32))} {y0 : Int32} {s : xS} {o : xH × Option Value} {r : (xS × Int32)}  (h : f156_22 y0 s = some r) (hr : dn156 o r) : Ev sc 8 156 [] 22 [none] [.int y0] (hk_of s) o := by
  unfold f156_22 at h
  refine E_blk rfl ?_
  cases h
  exact E_ret rfl (pg_mt_md (by decide)) rfl hr
noncomputable def f156 (x0 : Nat) (s : xS) : Option (xS × Int32) := ifg (oK x0 11 = true) <| (hk_R x0 10).bind fun a1 => (f107 a1 s).bind fun z4 => if z4.2 = 0 then ((hk_R x0 10).bind fun a7 => (f111 a7 z4.1).bind fun z10 => f156_22 z10.2 z10.1) else (f156_22 (-2 : Int32) z4.1)
set_option maxRecDepth 20000 in
theorem s156 {sc : Option (Nat × (Nat → Int32))} {x0 : Nat} {s : xS} {r : xS × Int32} (h : f156 x0 s = some r) : Cl sc 8 156 [.ref x0] (hk_of s) (hk_of r.1, some (.int r.2)) := by
  unfold f156 at h
  obtain ⟨k0, h⟩ := ifg_some h
  refine ⟨pg_md 156, [some (.ref x0)], pg_mt_md (by decide), (hk_rcv k0), rfl, ?_⟩
  generalize ho : ((hk_of r.1, some (Value.int r.2)) : xH × Option Value) = o
  have hr : dn156 o r := ho.symm
  refine E_blk rfl ?_
  refine E_ps 1 (pc' := 1) (l' := [some (.ref x0)]) (st' := [.ref x0]) rfl ?_
  obtain ⟨a1, e2, h⟩ := Option.bind_eq_some_iff.mp h
  refine E_gr k0 (by decide) rfl e2 ?_
  have kf3 : oK a1 10 = true := hk_rty k0 e2 rfl (by decide)
  obtain ⟨z4, e5, h⟩ := Option.bind_eq_some_iff.mp h
  refine E_callI (vs := [.ref a1]) (rest := []) rfl (by decide) rfl rfl (Nat.le_of_ble_eq_true rfl) (s107 e5) (by decide) ?_
  by_cases c6 : z4.2 = 0
  · rw [if_pos c6] at h
    refine E_jt rfl rfl c6 ?_
    refine E_blk rfl ?_
    refine E_ps 1 (pc' := 16) (l' := [some (.ref x0)]) (st' := [.ref x0]) rfl ?_
    obtain ⟨a7, e8, h⟩ := Option.bind_eq_some_iff.mp h
    refine E_gr k0 (by decide) rfl e8 ?_
    have kf9 : oK a7 10 = true := hk_rty k0 e8 rfl (by decide)
    obtain ⟨z10, e11, h⟩ := Option.bind_eq_some_iff.mp h
    refine E_callI (vs := [.ref a7]) (rest := []) rfl (by decide) rfl rfl (Nat.le_of_ble_eq_true rfl) (s111 e11) (by decide) ?_
    exact E_wk (l' := [none]) trivial (s156_22  h hr)
  · rw [if_neg c6] at h
    refine E_jf rfl rfl c6 ?_
    refine E_blk rfl ?_
    refine E_ps 1 (pc' := 12) (l' := [some (.ref x0)]) (st' := [.int (-2 : Int32)]) rfl ?_
    refine E_j rfl rfl ?_
    exact E_wk (l' := [none]) trivial (s156_22  h hr)

-- 157: ThreePlates.world(I)I
def dn157 (o : xH × Option Value) (r : xS × Int32) : Prop := o = (hk_of r.1, some (.int r.2))
noncomputable def f157_25  (s : xS) : Option (xS × Int32) := some (s, (-1 : Int32))
set_option maxRecDepth 20000 in
theorem s157_25 {sc : Option (Nat × (Nat → Int32))}  {s : xS} {o : xH × Option Value} {r : (xS × Int32)}  (h : f157_25  s = some r) (hr : dn157 o r) : Ev sc 8 157 [] 25 [none, none] [] (hk_of s) o := by
  unfold f157_25 at h
  refine E_blk rfl ?_
  refine E_ps 1 (pc' := 26) (l' := [none, none]) (st' := [.int (-1 : Int32)]) rfl ?_
  cases h
  exact E_ret rfl (pg_mt_md (by decide)) rfl hr
noncomputable def f157 (x0 : Nat) (x1 : Int32) (s : xS) : Option (xS × Int32) := ifg (oK x0 11 = true) <| (hk_R x0 10).bind fun a1 => (f107 a1 s).bind fun z4 => if z4.2 = 0 then (if x1 < 0 then (f157_25  z4.1) else ((hk_R x0 10).bind fun a8 => (f111 a8 z4.1).bind fun z11 => if x1 < z11.2 then ((hk_R x0 10).bind fun a14 => (hk_R a14 9).bind fun a17 => (aI z11.1 a17 x1).bind fun v19 => some (z11.1, v19)) else (f157_25  z11.1))) else (f157_25  z4.1)
set_option maxRecDepth 20000 in
theorem s157 {sc : Option (Nat × (Nat → Int32))} {x0 : Nat} {x1 : Int32} {s : xS} {r : xS × Int32} (h : f157 x0 x1 s = some r) : Cl sc 8 157 [.ref x0, .int x1] (hk_of s) (hk_of r.1, some (.int r.2)) := by
  unfold f157 at h
  obtain ⟨k0, h⟩ := ifg_some h
  refine ⟨pg_md 157, [some (.ref x0), some (.int x1)], pg_mt_md (by decide), (hk_rcv k0), rfl, ?_⟩
  generalize ho : ((hk_of r.1, some (Value.int r.2)) : xH × Option Value) = o
  have hr : dn157 o r := ho.symm
  refine E_blk rfl ?_
  refine E_ps 1 (pc' := 1) (l' := [some (.ref x0), some (.int x1)]) (st' := [.ref x0]) rfl ?_
  obtain ⟨a1, e2, h⟩ := Option.bind_eq_some_iff.mp h
  refine E_gr k0 (by decide) rfl e2 ?_
  have kf3 : oK a1 10 = true := hk_rty k0 e2 rfl (by decide)
  obtain ⟨z4, e5, h⟩ := Option.bind_eq_some_iff.mp h
  refine E_callI (vs := [.ref a1]) (rest := []) rfl (by decide) rfl rfl (Nat.le_of_ble_eq_true rfl) (s107 e5) (by decide) ?_
  by_cases c6 : z4.2 = 0
  · rw [if_pos c6] at h
    refine E_jt rfl rfl c6 ?_
    refine E_blk rfl ?_
    refine E_ps 1 (pc' := 11) (l' := [some (.ref x0), some (.int x1)]) (st' := [.int x1]) rfl ?_
    by_cases c7 : x1 < 0
    · rw [if_pos c7] at h
      refine E_jt rfl rfl c7 ?_
      exact E_wk (l' := [none, none]) trivial (s157_25  h hr)
    · rw [if_neg c7] at h
      refine E_jf rfl rfl c7 ?_
      refine E_blk rfl ?_
      refine E_ps 2 (pc' := 16) (l' := [some (.ref x0), some (.int x1)]) (st' := [.ref x0, .int x1]) rfl ?_
      obtain ⟨a8, e9, h⟩ := Option.bind_eq_some_iff.mp h
      refine E_gr k0 (by decide) rfl e9 ?_
      have kf10 : oK a8 10 = true := hk_rty k0 e9 rfl (by decide)
      obtain ⟨z11, e12, h⟩ := Option.bind_eq_some_iff.mp h
      refine E_callI (vs := [.ref a8]) (rest := [.int x1]) rfl (by decide) rfl rfl (Nat.le_of_ble_eq_true rfl) (s111 e12) (by decide) ?_
      by_cases c13 : x1 < z11.2
      · rw [if_pos c13] at h
        refine E_jt rfl rfl c13 ?_
        refine E_blk rfl ?_
        refine E_ps 1 (pc' := 28) (l' := [some (.ref x0), some (.int x1)]) (st' := [.ref x0]) rfl ?_
        obtain ⟨a14, e15, h⟩ := Option.bind_eq_some_iff.mp h
        refine E_gr k0 (by decide) rfl e15 ?_
        have kf16 : oK a14 10 = true := hk_rty k0 e15 rfl (by decide)
        obtain ⟨a17, e18, h⟩ := Option.bind_eq_some_iff.mp h
        refine E_gr kf16 (by decide) rfl e18 ?_
        refine E_ps 1 (pc' := 35) (l' := [some (.ref x0), some (.int x1)]) (st' := [.int x1, .ref a17]) rfl ?_
        obtain ⟨v19, e20, h⟩ := Option.bind_eq_some_iff.mp h
        refine E_ai e20 ?_
        cases h
        exact E_ret rfl (pg_mt_md (by decide)) rfl hr
      · rw [if_neg c13] at h
        refine E_jf rfl rfl c13 ?_
        exact E_wk (l' := [none, none]) trivial (s157_25  h hr)
  · rw [if_neg c6] at h
    refine E_jf rfl rfl c6 ?_
    exact E_wk (l' := [none, none]) trivial (s157_25  h hr)

-- 158: ThreePlates.known(ZI)I
def dn158 (o : xH × Option Value) (r : xS × Int32) : Prop := o = (hk_of r.1, some (.int r.2))
noncomputable def f158_57 (y0 : Int32) (s : xS) : Option (xS × Int32) := some (s, y0)
set_option maxRecDepth 20000 in
theorem s158_57 {sc : Option (Nat × (Nat → Int32))} {y0 : Int32} {s : xS} {o : xH × Option Value} {r : (xS × Int32)}  (h : f158_57 y0 s = some r) (hr : dn158 o r) : Ev sc 8 158 [] 57 [none, none, none] [.int y0] (hk_of s) o := by
  unfold f158_57 at h
  refine E_blk rfl ?_
  cases h
  exact E_ret rfl (pg_mt_md (by decide)) rfl hr
noncomputable def f158 (x0 : Nat) (x1 : Int32) (x2 : Int32) (s : xS) : Option (xS × Int32) := ifg (oK x0 11 = true) <| (f166 x2 s).bind fun z1 => if z1.2 = 0 then (some (z1.1, (-1 : Int32))) else ((hk_R x0 10).bind fun a4 => (f107 a4 z1.1).bind fun z7 => if z7.2 = 0 then ((hk_R x0 10).bind fun a10 => (f111 a10 z7.1).bind fun z13 => if z13.2 = 0 then (some (z13.1, (-1 : Int32))) else (if x1 = 0 then ((hk_R x0 10).bind fun a17 => (f116 a17 x2 z13.1).bind fun z20 => f158_57 z20.2 z20.1) else ((hk_R x0 10).bind fun a22 => (f117 a22 x2 z13.1).bind fun z25 => f158_57 z25.2 z25.1))) else (some (z7.1, (-2 : Int32))))
set_option maxRecDepth 20000 in
theorem s158 {sc : Option (Nat × (Nat → Int32))} {x0 : Nat} {x1 : Int32} {x2 : Int32} {s : xS} {r : xS × Int32} (h : f158 x0 x1 x2 s = some r) : Cl sc 8 158 [.ref x0, .int x1, .int x2] (hk_of s) (hk_of r.1, some (.int r.2)) := by
  unfold f158 at h
  obtain ⟨k0, h⟩ := ifg_some h
  refine ⟨pg_md 158, [some (.ref x0), some (.int x1), some (.int x2)], pg_mt_md (by decide), (hk_rcv k0), rfl, ?_⟩
  generalize ho : ((hk_of r.1, some (Value.int r.2)) : xH × Option Value) = o
  have hr : dn158 o r := ho.symm
  refine E_blk rfl ?_
  refine E_ps 1 (pc' := 1) (l' := [some (.ref x0), some (.int x1), some (.int x2)]) (st' := [.int x2]) rfl ?_
  obtain ⟨z1, e2, h⟩ := Option.bind_eq_some_iff.mp h
  refine E_callI (vs := [.int x2]) (rest := []) rfl (by decide) rfl rfl (Nat.le_of_ble_eq_true rfl) (s166 e2) (by decide) ?_
  by_cases c3 : z1.2 = 0
  · rw [if_pos c3] at h
    refine E_jt rfl rfl c3 ?_
    refine E_blk rfl ?_
    refine E_ps 1 (pc' := 8) (l' := [some (.ref x0), some (.int x1), some (.int x2)]) (st' := [.int (-1 : Int32)]) rfl ?_
    cases h
    exact E_ret rfl (pg_mt_md (by decide)) rfl hr
  · rw [if_neg c3] at h
    refine E_jf rfl rfl c3 ?_
    refine E_blk rfl ?_
    refine E_ps 1 (pc' := 10) (l' := [some (.ref x0), some (.int x1), some (.int x2)]) (st' := [.ref x0]) rfl ?_
    obtain ⟨a4, e5, h⟩ := Option.bind_eq_some_iff.mp h
    refine E_gr k0 (by decide) rfl e5 ?_
    have kf6 : oK a4 10 = true := hk_rty k0 e5 rfl (by decide)
    obtain ⟨z7, e8, h⟩ := Option.bind_eq_some_iff.mp h
    refine E_callI (vs := [.ref a4]) (rest := []) rfl (by decide) rfl rfl (Nat.le_of_ble_eq_true rfl) (s107 e8) (by decide) ?_
    by_cases c9 : z7.2 = 0
    · rw [if_pos c9] at h
      refine E_jt rfl rfl c9 ?_
      refine E_blk rfl ?_
      refine E_ps 1 (pc' := 23) (l' := [some (.ref x0), some (.int x1), some (.int x2)]) (st' := [.ref x0]) rfl ?_
      obtain ⟨a10, e11, h⟩ := Option.bind_eq_some_iff.mp h
      refine E_gr k0 (by decide) rfl e11 ?_
      have kf12 : oK a10 10 = true := hk_rty k0 e11 rfl (by decide)
      obtain ⟨z13, e14, h⟩ := Option.bind_eq_some_iff.mp h
      refine E_callI (vs := [.ref a10]) (rest := []) rfl (by decide) rfl rfl (Nat.le_of_ble_eq_true rfl) (s111 e14) (by decide) ?_
      by_cases c15 : z13.2 = 0
      · rw [if_pos c15] at h
        refine E_jt rfl rfl c15 ?_
        refine E_blk rfl ?_
        refine E_ps 1 (pc' := 33) (l' := [some (.ref x0), some (.int x1), some (.int x2)]) (st' := [.int (-1 : Int32)]) rfl ?_
        cases h
        exact E_ret rfl (pg_mt_md (by decide)) rfl hr
      · rw [if_neg c15] at h
        refine E_jf rfl rfl c15 ?_
        refine E_blk rfl ?_
        refine E_ps 1 (pc' := 35) (l' := [some (.ref x0), some (.int x1), some (.int x2)]) (st' := [.int x1]) rfl ?_
        by_cases c16 : x1 = 0
        · rw [if_pos c16] at h
          refine E_jt rfl rfl c16 ?_
          refine E_blk rfl ?_
          refine E_ps 1 (pc' := 50) (l' := [some (.ref x0), some (.int x1), some (.int x2)]) (st' := [.ref x0]) rfl ?_
          obtain ⟨a17, e18, h⟩ := Option.bind_eq_some_iff.mp h
          refine E_gr k0 (by decide) rfl e18 ?_
          have kf19 : oK a17 10 = true := hk_rty k0 e18 rfl (by decide)
          refine E_ps 1 (pc' := 54) (l' := [some (.ref x0), some (.int x1), some (.int x2)]) (st' := [.int x2, .ref a17]) rfl ?_
          obtain ⟨z20, e21, h⟩ := Option.bind_eq_some_iff.mp h
          refine E_callI (vs := [.ref a17, .int x2]) (rest := []) rfl (by decide) rfl rfl (Nat.le_of_ble_eq_true rfl) (s116 e21) (by decide) ?_
          exact E_wk (l' := [none, none, none]) trivial (s158_57  h hr)
        · rw [if_neg c16] at h
          refine E_jf rfl rfl c16 ?_
          refine E_blk rfl ?_
          refine E_ps 1 (pc' := 39) (l' := [some (.ref x0), some (.int x1), some (.int x2)]) (st' := [.ref x0]) rfl ?_
          obtain ⟨a22, e23, h⟩ := Option.bind_eq_some_iff.mp h
          refine E_gr k0 (by decide) rfl e23 ?_
          have kf24 : oK a22 10 = true := hk_rty k0 e23 rfl (by decide)
          refine E_ps 1 (pc' := 43) (l' := [some (.ref x0), some (.int x1), some (.int x2)]) (st' := [.int x2, .ref a22]) rfl ?_
          obtain ⟨z25, e26, h⟩ := Option.bind_eq_some_iff.mp h
          refine E_callI (vs := [.ref a22, .int x2]) (rest := []) rfl (by decide) rfl rfl (Nat.le_of_ble_eq_true rfl) (s117 e26) (by decide) ?_
          refine E_j rfl rfl ?_
          exact E_wk (l' := [none, none, none]) trivial (s158_57  h hr)
    · rw [if_neg c9] at h
      refine E_jf rfl rfl c9 ?_
      refine E_blk rfl ?_
      refine E_ps 1 (pc' := 21) (l' := [some (.ref x0), some (.int x1), some (.int x2)]) (st' := [.int (-2 : Int32)]) rfl ?_
      cases h
      exact E_ret rfl (pg_mt_md (by decide)) rfl hr

-- 159: ThreePlates.ask(I)I
def dn159 (o : xH × Option Value) (r : xS × Int32) : Prop := o = (hk_of r.1, some (.int r.2))
noncomputable def f159_56 (y0 : Int32) (s : xS) : Option (xS × Int32) := some (s, y0)
set_option maxRecDepth 20000 in
theorem s159_56 {sc : Option (Nat × (Nat → Int32))} {y0 : Int32} {s : xS} {o : xH × Option Value} {r : (xS × Int32)}  (h : f159_56 y0 s = some r) (hr : dn159 o r) : Ev sc 8 159 [] 56 [none, none] [.int y0] (hk_of s) o := by
  unfold f159_56 at h
  refine E_blk rfl ?_
  cases h
  exact E_ret rfl (pg_mt_md (by decide)) rfl hr
noncomputable def f159_19  (s : xS) : Option (xS × Int32) := some (s, (-1 : Int32))
set_option maxRecDepth 20000 in
theorem s159_19 {sc : Option (Nat × (Nat → Int32))}  {s : xS} {o : xH × Option Value} {r : (xS × Int32)}  (h : f159_19  s = some r) (hr : dn159 o r) : Ev sc 8 159 [] 19 [none, none] [] (hk_of s) o := by
  unfold f159_19 at h
  refine E_blk rfl ?_
  refine E_ps 1 (pc' := 20) (l' := [none, none]) (st' := [.int (-1 : Int32)]) rfl ?_
  cases h
  exact E_ret rfl (pg_mt_md (by decide)) rfl hr
noncomputable def f159 (x0 : Nat) (x1 : Int32) (s : xS) : Option (xS × Int32) := ifg (oK x0 11 = true) <| if x1 < 0 then (f159_19  s) else (if (2 : Int32) < x1 then (f159_19  s) else ((hk_R x0 1).bind fun a3 => if (s.1 a3 2) = 0 then (f159_19  s) else ((hk_R x0 10).bind fun a7 => (f107 a7 s).bind fun z10 => if z10.2 = 0 then ((hk_R x0 10).bind fun a13 => (f111 a13 z10.1).bind fun z16 => if z16.2 = 0 then (f159_56 (-1 : Int32) z16.1) else ((hk_R x0 10).bind fun a19 => (f119 a19 x1 z16.1).bind fun z22 => f159_56 z22.2 z22.1)) else (some (z10.1, (-2 : Int32))))))
set_option maxRecDepth 20000 in
theorem s159 {sc : Option (Nat × (Nat → Int32))} {x0 : Nat} {x1 : Int32} {s : xS} {r : xS × Int32} (h : f159 x0 x1 s = some r) : Cl sc 8 159 [.ref x0, .int x1] (hk_of s) (hk_of r.1, some (.int r.2)) := by
  unfold f159 at h
  obtain ⟨k0, h⟩ := ifg_some h
  refine ⟨pg_md 159, [some (.ref x0), some (.int x1)], pg_mt_md (by decide), (hk_rcv k0), rfl, ?_⟩
  generalize ho : ((hk_of r.1, some (Value.int r.2)) : xH × Option Value) = o
  have hr : dn159 o r := ho.symm
  refine E_blk rfl ?_
  refine E_ps 1 (pc' := 1) (l' := [some (.ref x0), some (.int x1)]) (st' := [.int x1]) rfl ?_
  by_cases c1 : x1 < 0
  · rw [if_pos c1] at h
    refine E_jt rfl rfl c1 ?_
    exact E_wk (l' := [none, none]) trivial (s159_19  h hr)
  · rw [if_neg c1] at h
    refine E_jf rfl rfl c1 ?_
    refine E_blk rfl ?_
    refine E_ps 2 (pc' := 6) (l' := [some (.ref x0), some (.int x1)]) (st' := [.int (2 : Int32), .int x1]) rfl ?_
    by_cases c2 : (2 : Int32) < x1
    · rw [if_pos c2] at h
      refine E_jt rfl rfl c2 ?_
      exact E_wk (l' := [none, none]) trivial (s159_19  h hr)
    · rw [if_neg c2] at h
      refine E_jf rfl rfl c2 ?_
      refine E_blk rfl ?_
      refine E_ps 1 (pc' := 10) (l' := [some (.ref x0), some (.int x1)]) (st' := [.ref x0]) rfl ?_
      obtain ⟨a3, e4, h⟩ := Option.bind_eq_some_iff.mp h
      refine E_gr k0 (by decide) rfl e4 ?_
      have kf5 : oK a3 7 = true := hk_rty k0 e4 rfl (by decide)
      refine E_gi kf5 (by decide) rfl ?_
      by_cases c6 : (s.1 a3 2) = 0
      · rw [if_pos c6] at h
        refine E_jt rfl rfl c6 ?_
        exact E_wk (l' := [none, none]) trivial (s159_19  h hr)
      · rw [if_neg c6] at h
        refine E_jf rfl rfl c6 ?_
        refine E_blk rfl ?_
        refine E_ps 1 (pc' := 22) (l' := [some (.ref x0), some (.int x1)]) (st' := [.ref x0]) rfl ?_
        obtain ⟨a7, e8, h⟩ := Option.bind_eq_some_iff.mp h
        refine E_gr k0 (by decide) rfl e8 ?_
        have kf9 : oK a7 10 = true := hk_rty k0 e8 rfl (by decide)
        obtain ⟨z10, e11, h⟩ := Option.bind_eq_some_iff.mp h
        refine E_callI (vs := [.ref a7]) (rest := []) rfl (by decide) rfl rfl (Nat.le_of_ble_eq_true rfl) (s107 e11) (by decide) ?_
        by_cases c12 : z10.2 = 0
        · rw [if_pos c12] at h
          refine E_jt rfl rfl c12 ?_
          refine E_blk rfl ?_
          refine E_ps 1 (pc' := 35) (l' := [some (.ref x0), some (.int x1)]) (st' := [.ref x0]) rfl ?_
          obtain ⟨a13, e14, h⟩ := Option.bind_eq_some_iff.mp h
          refine E_gr k0 (by decide) rfl e14 ?_
          have kf15 : oK a13 10 = true := hk_rty k0 e14 rfl (by decide)
          obtain ⟨z16, e17, h⟩ := Option.bind_eq_some_iff.mp h
          refine E_callI (vs := [.ref a13]) (rest := []) rfl (by decide) rfl rfl (Nat.le_of_ble_eq_true rfl) (s111 e17) (by decide) ?_
          by_cases c18 : z16.2 = 0
          · rw [if_pos c18] at h
            refine E_jt rfl rfl c18 ?_
            refine E_blk rfl ?_
            refine E_ps 1 (pc' := 45) (l' := [some (.ref x0), some (.int x1)]) (st' := [.int (-1 : Int32)]) rfl ?_
            refine E_j rfl rfl ?_
            exact E_wk (l' := [none, none]) trivial (s159_56  h hr)
          · rw [if_neg c18] at h
            refine E_jf rfl rfl c18 ?_
            refine E_blk rfl ?_
            refine E_ps 1 (pc' := 49) (l' := [some (.ref x0), some (.int x1)]) (st' := [.ref x0]) rfl ?_
            obtain ⟨a19, e20, h⟩ := Option.bind_eq_some_iff.mp h
            refine E_gr k0 (by decide) rfl e20 ?_
            have kf21 : oK a19 10 = true := hk_rty k0 e20 rfl (by decide)
            refine E_ps 1 (pc' := 53) (l' := [some (.ref x0), some (.int x1)]) (st' := [.int x1, .ref a19]) rfl ?_
            obtain ⟨z22, e23, h⟩ := Option.bind_eq_some_iff.mp h
            refine E_callI (vs := [.ref a19, .int x1]) (rest := []) rfl (by decide) rfl rfl (Nat.le_of_ble_eq_true rfl) (s119 e23) (by decide) ?_
            exact E_wk (l' := [none, none]) trivial (s159_56  h hr)
        · rw [if_neg c12] at h
          refine E_jf rfl rfl c12 ?_
          refine E_blk rfl ?_
          refine E_ps 1 (pc' := 33) (l' := [some (.ref x0), some (.int x1)]) (st' := [.int (-2 : Int32)]) rfl ?_
          cases h
          exact E_ret rfl (pg_mt_md (by decide)) rfl hr

-- 160: ThreePlates.seed(I)I
def dn160 (o : xH × Option Value) (r : xS × Int32) : Prop := o = (hk_of r.1, some (.int r.2))
noncomputable def f160 (x0 : Nat) (x1 : Int32) (s : xS) : Option (xS × Int32) := ifg (oK x0 11 = true) <| (hk_R x0 5).bind fun a1 => (hk_R x0 5).bind fun a4 => (pI s a4 5 x1).bind fun t7 => (f164 x0 t7).bind fun z9 => some (z9.1, (s.1 a1 5))
set_option maxRecDepth 20000 in
theorem s160 {sc : Option (Nat × (Nat → Int32))} {x0 : Nat} {x1 : Int32} {s : xS} {r : xS × Int32} (h : f160 x0 x1 s = some r) : Cl sc 3 160 [.ref x0, .int x1] (hk_of s) (hk_of r.1, some (.int r.2)) := by
  unfold f160 at h
  obtain ⟨k0, h⟩ := ifg_some h
  refine ⟨pg_md 160, [some (.ref x0), some (.int x1), none], pg_mt_md (by decide), (hk_rcv k0), rfl, ?_⟩
  generalize ho : ((hk_of r.1, some (Value.int r.2)) : xH × Option Value) = o
  have hr : dn160 o r := ho.symm
  refine E_blk rfl ?_
  refine E_ps 1 (pc' := 1) (l' := [some (.ref x0), some (.int x1), none]) (st' := [.ref x0]) rfl ?_
  obtain ⟨a1, e2, h⟩ := Option.bind_eq_some_iff.mp h
  refine E_gr k0 (by decide) rfl e2 ?_
  have kf3 : oK a1 0 = true := hk_rty k0 e2 rfl (by decide)
  refine E_gi kf3 (by decide) rfl ?_
  refine E_ps 2 (pc' := 9) (l' := [some (.ref x0), some (.int x1), some (.int (s.1 a1 5))]) (st' := [.ref x0]) rfl ?_
  obtain ⟨a4, e5, h⟩ := Option.bind_eq_some_iff.mp h
  refine E_gr k0 (by decide) rfl e5 ?_
  have kf6 : oK a4 0 = true := hk_rty k0 e5 rfl (by decide)
  refine E_ps 1 (pc' := 13) (l' := [some (.ref x0), some (.int x1), some (.int (s.1 a1 5))]) (st' := [.int x1, .ref a4]) rfl ?_
  obtain ⟨t7, e8, h⟩ := Option.bind_eq_some_iff.mp h
  refine E_pi kf6 (by decide) rfl e8 ?_
  refine E_ps 1 (pc' := 17) (l' := [some (.ref x0), some (.int x1), some (.int (s.1 a1 5))]) (st' := [.ref x0]) rfl ?_
  obtain ⟨z9, e10, h⟩ := Option.bind_eq_some_iff.mp h
  refine E_callV (vs := [.ref x0]) (rest := []) rfl (by decide) rfl rfl (Nat.le_of_ble_eq_true rfl) (s164 e10) (by decide) ?_
  refine E_ps 1 (pc' := 21) (l' := [some (.ref x0), some (.int x1), some (.int (s.1 a1 5))]) (st' := [.int (s.1 a1 5)]) rfl ?_
  cases h
  exact E_ret rfl (pg_mt_md (by decide)) rfl hr

-- 161: ThreePlates.image(I)I
def dn161 (o : xH × Option Value) (r : xS × Int32) : Prop := o = (hk_of r.1, some (.int r.2))
noncomputable def f161_9  (s : xS) : Option (xS × Int32) := some (s, (-1 : Int32))
set_option maxRecDepth 20000 in
theorem s161_9 {sc : Option (Nat × (Nat → Int32))}  {s : xS} {o : xH × Option Value} {r : (xS × Int32)}  (h : f161_9  s = some r) (hr : dn161 o r) : Ev sc 2 161 [] 9 [none, none] [] (hk_of s) o := by
  unfold f161_9 at h
  refine E_blk rfl ?_
  refine E_ps 1 (pc' := 10) (l' := [none, none]) (st' := [.int (-1 : Int32)]) rfl ?_
  cases h
  exact E_ret rfl (pg_mt_md (by decide)) rfl hr
noncomputable def f161 (x0 : Nat) (x1 : Int32) (s : xS) : Option (xS × Int32) := ifg (oK x0 11 = true) <| if x1 < 0 then (f161_9  s) else (if x1 < (3 : Int32) then ((hk_R x0 6).bind fun a3 => (aR a3 x1).bind fun a5 => ifg (oK a5 0 = true) <| (hk_R x0 5).bind fun a8 => (f3 a5 a8 s).bind fun z11 => (hk_R x0 7).bind fun a13 => (wB z11.1 a13 x1 (1 : Int32)).bind fun t15 => (hk_R x0 1).bind fun a17 => some (t15, (t15.1 a17 2))) else (f161_9  s))
set_option maxRecDepth 20000 in
theorem s161 {sc : Option (Nat × (Nat → Int32))} {x0 : Nat} {x1 : Int32} {s : xS} {r : xS × Int32} (h : f161 x0 x1 s = some r) : Cl sc 2 161 [.ref x0, .int x1] (hk_of s) (hk_of r.1, some (.int r.2)) := by
  unfold f161 at h
  obtain ⟨k0, h⟩ := ifg_some h
  refine ⟨pg_md 161, [some (.ref x0), some (.int x1)], pg_mt_md (by decide), (hk_rcv k0), rfl, ?_⟩
  generalize ho : ((hk_of r.1, some (Value.int r.2)) : xH × Option Value) = o
  have hr : dn161 o r := ho.symm
  refine E_blk rfl ?_
  refine E_ps 1 (pc' := 1) (l' := [some (.ref x0), some (.int x1)]) (st' := [.int x1]) rfl ?_
  by_cases c1 : x1 < 0
  · rw [if_pos c1] at h
    refine E_jt rfl rfl c1 ?_
    exact E_wk (l' := [none, none]) trivial (s161_9  h hr)
  · rw [if_neg c1] at h
    refine E_jf rfl rfl c1 ?_
    refine E_blk rfl ?_
    refine E_ps 2 (pc' := 6) (l' := [some (.ref x0), some (.int x1)]) (st' := [.int (3 : Int32), .int x1]) rfl ?_
    by_cases c2 : x1 < (3 : Int32)
    · rw [if_pos c2] at h
      refine E_jt rfl rfl c2 ?_
      refine E_blk rfl ?_
      refine E_ps 1 (pc' := 12) (l' := [some (.ref x0), some (.int x1)]) (st' := [.ref x0]) rfl ?_
      obtain ⟨a3, e4, h⟩ := Option.bind_eq_some_iff.mp h
      refine E_gr k0 (by decide) rfl e4 ?_
      refine E_ps 1 (pc' := 16) (l' := [some (.ref x0), some (.int x1)]) (st' := [.int x1, .ref a3]) rfl ?_
      obtain ⟨a5, e6, h⟩ := Option.bind_eq_some_iff.mp h
      refine E_ar e6 ?_
      obtain ⟨g7, h⟩ := ifg_some h
      refine E_ps 1 (pc' := 18) (l' := [some (.ref x0), some (.int x1)]) (st' := [.ref x0, .ref a5]) rfl ?_
      obtain ⟨a8, e9, h⟩ := Option.bind_eq_some_iff.mp h
      refine E_gr k0 (by decide) rfl e9 ?_
      have kf10 : oK a8 0 = true := hk_rty k0 e9 rfl (by decide)
      obtain ⟨z11, e12, h⟩ := Option.bind_eq_some_iff.mp h
      refine E_callV (vs := [.ref a5, .ref a8]) (rest := []) rfl (by decide) rfl rfl (Nat.le_of_ble_eq_true rfl) (s3 e12) (by decide) ?_
      refine E_ps 1 (pc' := 25) (l' := [some (.ref x0), some (.int x1)]) (st' := [.ref x0]) rfl ?_
      obtain ⟨a13, e14, h⟩ := Option.bind_eq_some_iff.mp h
      refine E_gr k0 (by decide) rfl e14 ?_
      refine E_ps 2 (pc' := 30) (l' := [some (.ref x0), some (.int x1)]) (st' := [.int (1 : Int32), .int x1, .ref a13]) rfl ?_
      obtain ⟨t15, e16, h⟩ := Option.bind_eq_some_iff.mp h
      refine E_wb e16 ?_
      refine E_ps 1 (pc' := 32) (l' := [some (.ref x0), some (.int x1)]) (st' := [.ref x0]) rfl ?_
      obtain ⟨a17, e18, h⟩ := Option.bind_eq_some_iff.mp h
      refine E_gr k0 (by decide) rfl e18 ?_
      have kf19 : oK a17 7 = true := hk_rty k0 e18 rfl (by decide)
      refine E_gi kf19 (by decide) rfl ?_
      cases h
      exact E_ret rfl (pg_mt_md (by decide)) rfl hr
    · rw [if_neg c2] at h
      refine E_jf rfl rfl c2 ?_
      exact E_wk (l' := [none, none]) trivial (s161_9  h hr)

-- 162: ThreePlates.back(I)I
def dn162 (o : xH × Option Value) (r : xS × Int32) : Prop := o = (hk_of r.1, some (.int r.2))
noncomputable def f162_18  (s : xS) : Option (xS × Int32) := some (s, (-1 : Int32))
set_option maxRecDepth 20000 in
theorem s162_18 {sc : Option (Nat × (Nat → Int32))}  {s : xS} {o : xH × Option Value} {r : (xS × Int32)}  (h : f162_18  s = some r) (hr : dn162 o r) : Ev sc 3 162 [] 18 [none, none] [] (hk_of s) o := by
  unfold f162_18 at h
  refine E_blk rfl ?_
  refine E_ps 1 (pc' := 19) (l' := [none, none]) (st' := [.int (-1 : Int32)]) rfl ?_
  cases h
  exact E_ret rfl (pg_mt_md (by decide)) rfl hr
noncomputable def f162 (x0 : Nat) (x1 : Int32) (s : xS) : Option (xS × Int32) := ifg (oK x0 11 = true) <| if x1 < 0 then (f162_18  s) else (if (3 : Int32) ≤ x1 then (f162_18  s) else ((hk_R x0 7).bind fun a3 => (aB s a3 x1).bind fun v5 => if v5 = 0 then (f162_18  s) else ((hk_R x0 5).bind fun a8 => (hk_R x0 6).bind fun a11 => (aR a11 x1).bind fun a13 => ifg (oK a13 0 = true) <| (f3 a8 a13 s).bind fun z16 => (f164 x0 z16.1).bind fun z18 => (hk_R x0 1).bind fun a20 => some (z18.1, (z18.1.1 a20 2)))))
set_option maxRecDepth 20000 in
theorem s162 {sc : Option (Nat × (Nat → Int32))} {x0 : Nat} {x1 : Int32} {s : xS} {r : xS × Int32} (h : f162 x0 x1 s = some r) : Cl sc 3 162 [.ref x0, .int x1] (hk_of s) (hk_of r.1, some (.int r.2)) := by
  unfold f162 at h
  obtain ⟨k0, h⟩ := ifg_some h
  refine ⟨pg_md 162, [some (.ref x0), some (.int x1)], pg_mt_md (by decide), (hk_rcv k0), rfl, ?_⟩
  generalize ho : ((hk_of r.1, some (Value.int r.2)) : xH × Option Value) = o
  have hr : dn162 o r := ho.symm
  refine E_blk rfl ?_
  refine E_ps 1 (pc' := 1) (l' := [some (.ref x0), some (.int x1)]) (st' := [.int x1]) rfl ?_
  by_cases c1 : x1 < 0
  · rw [if_pos c1] at h
    refine E_jt rfl rfl c1 ?_
    exact E_wk (l' := [none, none]) trivial (s162_18  h hr)
  · rw [if_neg c1] at h
    refine E_jf rfl rfl c1 ?_
    refine E_blk rfl ?_
    refine E_ps 2 (pc' := 6) (l' := [some (.ref x0), some (.int x1)]) (st' := [.int (3 : Int32), .int x1]) rfl ?_
    by_cases c2 : (3 : Int32) ≤ x1
    · rw [if_pos c2] at h
      refine E_jt rfl rfl c2 ?_
      exact E_wk (l' := [none, none]) trivial (s162_18  h hr)
    · rw [if_neg c2] at h
      refine E_jf rfl rfl c2 ?_
      refine E_blk rfl ?_
      refine E_ps 1 (pc' := 10) (l' := [some (.ref x0), some (.int x1)]) (st' := [.ref x0]) rfl ?_
      obtain ⟨a3, e4, h⟩ := Option.bind_eq_some_iff.mp h
      refine E_gr k0 (by decide) rfl e4 ?_
      refine E_ps 1 (pc' := 14) (l' := [some (.ref x0), some (.int x1)]) (st' := [.int x1, .ref a3]) rfl ?_
      obtain ⟨v5, e6, h⟩ := Option.bind_eq_some_iff.mp h
      refine E_ab e6 ?_
      by_cases c7 : v5 = 0
      · rw [if_pos c7] at h
        refine E_jt rfl rfl c7 ?_
        exact E_wk (l' := [none, none]) trivial (s162_18  h hr)
      · rw [if_neg c7] at h
        refine E_jf rfl rfl c7 ?_
        refine E_blk rfl ?_
        refine E_ps 1 (pc' := 21) (l' := [some (.ref x0), some (.int x1)]) (st' := [.ref x0]) rfl ?_
        obtain ⟨a8, e9, h⟩ := Option.bind_eq_some_iff.mp h
        refine E_gr k0 (by decide) rfl e9 ?_
        have kf10 : oK a8 0 = true := hk_rty k0 e9 rfl (by decide)
        refine E_ps 1 (pc' := 25) (l' := [some (.ref x0), some (.int x1)]) (st' := [.ref x0, .ref a8]) rfl ?_
        obtain ⟨a11, e12, h⟩ := Option.bind_eq_some_iff.mp h
        refine E_gr k0 (by decide) rfl e12 ?_
        refine E_ps 1 (pc' := 29) (l' := [some (.ref x0), some (.int x1)]) (st' := [.int x1, .ref a11, .ref a8]) rfl ?_
        obtain ⟨a13, e14, h⟩ := Option.bind_eq_some_iff.mp h
        refine E_ar e14 ?_
        obtain ⟨g15, h⟩ := ifg_some h
        obtain ⟨z16, e17, h⟩ := Option.bind_eq_some_iff.mp h
        refine E_callV (vs := [.ref a8, .ref a13]) (rest := []) rfl (by decide) rfl rfl (Nat.le_of_ble_eq_true rfl) (s3 e17) (by decide) ?_
        refine E_ps 1 (pc' := 34) (l' := [some (.ref x0), some (.int x1)]) (st' := [.ref x0]) rfl ?_
        obtain ⟨z18, e19, h⟩ := Option.bind_eq_some_iff.mp h
        refine E_callV (vs := [.ref x0]) (rest := []) rfl (by decide) rfl rfl (Nat.le_of_ble_eq_true rfl) (s164 e19) (by decide) ?_
        refine E_ps 1 (pc' := 38) (l' := [some (.ref x0), some (.int x1)]) (st' := [.ref x0]) rfl ?_
        obtain ⟨a20, e21, h⟩ := Option.bind_eq_some_iff.mp h
        refine E_gr k0 (by decide) rfl e21 ?_
        have kf22 : oK a20 7 = true := hk_rty k0 e21 rfl (by decide)
        refine E_gi kf22 (by decide) rfl ?_
        cases h
        exact E_ret rfl (pg_mt_md (by decide)) rfl hr

-- 163: ThreePlates.about(I)I
def dn163 (o : xH × Option Value) (r : xS × Int32) : Prop := o = (hk_of r.1, some (.int r.2))
noncomputable def f163 (x0 : Nat) (x1 : Int32) (s : xS) : Option (xS × Int32) := ifg (oK x0 11 = true) <| if x1 = 0 then ((hk_R x0 1).bind fun a2 => some (s, (s.1 a2 2))) else (if x1 = 1 then ((hk_R x0 1).bind fun a6 => some (s, (s.1 a6 3))) else (if x1 = 2 then ((hk_R x0 3).bind fun a10 => some (s, (s.1 a10 1))) else (if x1 = 3 then ((hk_R x0 5).bind fun a14 => some (s, (s.1 a14 3))) else (if x1 = 4 then ((hk_R x0 5).bind fun a18 => some (s, (s.1 a18 4))) else (if x1 = 5 then ((hk_R x0 5).bind fun a22 => some (s, (s.1 a22 5))) else (if x1 = 6 then ((hk_R x0 0).bind fun a26 => some (s, (s.1 a26 1))) else (if x1 = 7 then ((hk_R x0 12).bind fun a30 => some (s, (s.1 a30 2))) else (if x1 = 8 then ((hk_R x0 10).bind fun a34 => some (s, (s.1 a34 8))) else (some (s, (-1 : Int32)))))))))))
set_option maxRecDepth 20000 in
theorem s163 {sc : Option (Nat × (Nat → Int32))} {x0 : Nat} {x1 : Int32} {s : xS} {r : xS × Int32} (h : f163 x0 x1 s = some r) : Cl sc 1 163 [.ref x0, .int x1] (hk_of s) (hk_of r.1, some (.int r.2)) := by
  unfold f163 at h
  obtain ⟨k0, h⟩ := ifg_some h
  refine ⟨pg_md 163, [some (.ref x0), some (.int x1)], pg_mt_md (by decide), (hk_rcv k0), rfl, ?_⟩
  generalize ho : ((hk_of r.1, some (Value.int r.2)) : xH × Option Value) = o
  have hr : dn163 o r := ho.symm
  refine E_blk rfl ?_
  refine E_ps 1 (pc' := 1) (l' := [some (.ref x0), some (.int x1)]) (st' := [.int x1]) rfl ?_
  by_cases c1 : x1 = 0
  · rw [if_pos c1] at h
    refine E_j (pc' := 52) rfl (by rw [c1]; rfl) ?_
    refine E_blk rfl ?_
    refine E_ps 1 (pc' := 53) (l' := [some (.ref x0), some (.int x1)]) (st' := [.ref x0]) rfl ?_
    obtain ⟨a2, e3, h⟩ := Option.bind_eq_some_iff.mp h
    refine E_gr k0 (by decide) rfl e3 ?_
    have kf4 : oK a2 7 = true := hk_rty k0 e3 rfl (by decide)
    refine E_gi kf4 (by decide) rfl ?_
    cases h
    exact E_ret rfl (pg_mt_md (by decide)) rfl hr
  · rw [if_neg c1] at h
    by_cases c5 : x1 = 1
    · rw [if_pos c5] at h
      refine E_j (pc' := 60) rfl (by rw [c5]; rfl) ?_
      refine E_blk rfl ?_
      refine E_ps 1 (pc' := 61) (l' := [some (.ref x0), some (.int x1)]) (st' := [.ref x0]) rfl ?_
      obtain ⟨a6, e7, h⟩ := Option.bind_eq_some_iff.mp h
      refine E_gr k0 (by decide) rfl e7 ?_
      have kf8 : oK a6 7 = true := hk_rty k0 e7 rfl (by decide)
      refine E_gi kf8 (by decide) rfl ?_
      cases h
      exact E_ret rfl (pg_mt_md (by decide)) rfl hr
    · rw [if_neg c5] at h
      by_cases c9 : x1 = 2
      · rw [if_pos c9] at h
        refine E_j (pc' := 68) rfl (by rw [c9]; rfl) ?_
        refine E_blk rfl ?_
        refine E_ps 1 (pc' := 69) (l' := [some (.ref x0), some (.int x1)]) (st' := [.ref x0]) rfl ?_
        obtain ⟨a10, e11, h⟩ := Option.bind_eq_some_iff.mp h
        refine E_gr k0 (by decide) rfl e11 ?_
        have kf12 : oK a10 4 = true := hk_rty k0 e11 rfl (by decide)
        refine E_gi kf12 (by decide) rfl ?_
        cases h
        exact E_ret rfl (pg_mt_md (by decide)) rfl hr
      · rw [if_neg c9] at h
        by_cases c13 : x1 = 3
        · rw [if_pos c13] at h
          refine E_j (pc' := 76) rfl (by rw [c13]; rfl) ?_
          refine E_blk rfl ?_
          refine E_ps 1 (pc' := 77) (l' := [some (.ref x0), some (.int x1)]) (st' := [.ref x0]) rfl ?_
          obtain ⟨a14, e15, h⟩ := Option.bind_eq_some_iff.mp h
          refine E_gr k0 (by decide) rfl e15 ?_
          have kf16 : oK a14 0 = true := hk_rty k0 e15 rfl (by decide)
          refine E_gi kf16 (by decide) rfl ?_
          cases h
          exact E_ret rfl (pg_mt_md (by decide)) rfl hr
        · rw [if_neg c13] at h
          by_cases c17 : x1 = 4
          · rw [if_pos c17] at h
            refine E_j (pc' := 84) rfl (by rw [c17]; rfl) ?_
            refine E_blk rfl ?_
            refine E_ps 1 (pc' := 85) (l' := [some (.ref x0), some (.int x1)]) (st' := [.ref x0]) rfl ?_
            obtain ⟨a18, e19, h⟩ := Option.bind_eq_some_iff.mp h
            refine E_gr k0 (by decide) rfl e19 ?_
            have kf20 : oK a18 0 = true := hk_rty k0 e19 rfl (by decide)
            refine E_gi kf20 (by decide) rfl ?_
            cases h
            exact E_ret rfl (pg_mt_md (by decide)) rfl hr
          · rw [if_neg c17] at h
            by_cases c21 : x1 = 5
            · rw [if_pos c21] at h
              refine E_j (pc' := 92) rfl (by rw [c21]; rfl) ?_
              refine E_blk rfl ?_
              refine E_ps 1 (pc' := 93) (l' := [some (.ref x0), some (.int x1)]) (st' := [.ref x0]) rfl ?_
              obtain ⟨a22, e23, h⟩ := Option.bind_eq_some_iff.mp h
              refine E_gr k0 (by decide) rfl e23 ?_
              have kf24 : oK a22 0 = true := hk_rty k0 e23 rfl (by decide)
              refine E_gi kf24 (by decide) rfl ?_
              cases h
              exact E_ret rfl (pg_mt_md (by decide)) rfl hr
            · rw [if_neg c21] at h
              by_cases c25 : x1 = 6
              · rw [if_pos c25] at h
                refine E_j (pc' := 100) rfl (by rw [c25]; rfl) ?_
                refine E_blk rfl ?_
                refine E_ps 1 (pc' := 101) (l' := [some (.ref x0), some (.int x1)]) (st' := [.ref x0]) rfl ?_
                obtain ⟨a26, e27, h⟩ := Option.bind_eq_some_iff.mp h
                refine E_gr k0 (by decide) rfl e27 ?_
                have kf28 : oK a26 8 = true := hk_rty k0 e27 rfl (by decide)
                refine E_gi kf28 (by decide) rfl ?_
                cases h
                exact E_ret rfl (pg_mt_md (by decide)) rfl hr
              · rw [if_neg c25] at h
                by_cases c29 : x1 = 7
                · rw [if_pos c29] at h
                  refine E_j (pc' := 108) rfl (by rw [c29]; rfl) ?_
                  refine E_blk rfl ?_
                  refine E_ps 1 (pc' := 109) (l' := [some (.ref x0), some (.int x1)]) (st' := [.ref x0]) rfl ?_
                  obtain ⟨a30, e31, h⟩ := Option.bind_eq_some_iff.mp h
                  refine E_gr k0 (by decide) rfl e31 ?_
                  have kf32 : oK a30 2 = true := hk_rty k0 e31 rfl (by decide)
                  refine E_gi kf32 (by decide) rfl ?_
                  cases h
                  exact E_ret rfl (pg_mt_md (by decide)) rfl hr
                · rw [if_neg c29] at h
                  by_cases c33 : x1 = 8
                  · rw [if_pos c33] at h
                    refine E_j (pc' := 116) rfl (by rw [c33]; rfl) ?_
                    refine E_blk rfl ?_
                    refine E_ps 1 (pc' := 117) (l' := [some (.ref x0), some (.int x1)]) (st' := [.ref x0]) rfl ?_
                    obtain ⟨a34, e35, h⟩ := Option.bind_eq_some_iff.mp h
                    refine E_gr k0 (by decide) rfl e35 ?_
                    have kf36 : oK a34 10 = true := hk_rty k0 e35 rfl (by decide)
                    refine E_gi kf36 (by decide) rfl ?_
                    cases h
                    exact E_ret rfl (pg_mt_md (by decide)) rfl hr
                  · rw [if_neg c33] at h
                    refine E_j (pc' := 124) rfl (hk_tsw [0, 1, 2, 3, 4, 5, 6, 7, 8] (by intro z hz; simp only [List.mem_cons, List.not_mem_nil, or_false] at hz; rcases hz with rfl | rfl | rfl | rfl | rfl | rfl | rfl | rfl | rfl <;> assumption) (by decide) (by decide +kernel)) ?_
                    refine E_blk rfl ?_
                    refine E_ps 1 (pc' := 125) (l' := [some (.ref x0), some (.int x1)]) (st' := [.int (-1 : Int32)]) rfl ?_
                    cases h
                    exact E_ret rfl (pg_mt_md (by decide)) rfl hr
