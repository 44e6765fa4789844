-- 173: ThreePlatesModel.sign(I)I
def dn173 (o : xH × Option Value) (r : xS × Int32) : Prop := o = (hk_of r.1, some (.int r.2))
noncomputable def f173_22 (y0 : Int32) (s : xS) : Option (xS × Int32) := some (s, y0)
set_option maxRecDepth 20000 in
theorem s173_22 {sc : Option (Nat × (Nat → Int32))} {y0 : Int32} {s : xS} {o : xH × Option Value} {r : (xS × Int32)}  (h : f173_22 y0 s = some r) (hr : dn173 o r) : Ev sc 1 173 [] 22 [none, none] [.int y0] (hk_of s) o := by
  unfold f173_22 at h
  refine E_blk rfl ?_
  cases h
  exact E_ret rfl (pg_mt_md (by decide)) rfl hr
noncomputable def f173 (x0 : Nat) (x1 : Int32) (s : xS) : Option (xS × Int32) := ifg (oK x0 12 = true) <| if (s.1 x0 3) ≤ x1 then (f173_22 (0 : Int32) s) else ((hk_R x0 1).bind fun a2 => (aB s a2 x1).bind fun v4 => f173_22 (v4 &&& (255 : Int32)) s)
set_option maxRecDepth 20000 in
theorem s173 {sc : Option (Nat × (Nat → Int32))} {x0 : Nat} {x1 : Int32} {s : xS} {r : xS × Int32} (h : f173 x0 x1 s = some r) : Cl sc 1 173 [.ref x0, .int x1] (hk_of s) (hk_of r.1, some (.int r.2)) := by
  unfold f173 at h
  obtain ⟨k0, h⟩ := ifg_some h
  refine ⟨pg_md 173, [some (.ref x0), some (.int x1)], pg_mt_md (by decide), (hk_rcv k0), rfl, ?_⟩
  generalize ho : ((hk_of r.1, some (Value.int r.2)) : xH × Option Value) = o
  have hr : dn173 o r := ho.symm
  refine E_blk rfl ?_
  refine E_ps 2 (pc' := 2) (l' := [some (.ref x0), some (.int x1)]) (st' := [.ref x0, .int x1]) rfl ?_
  refine E_gi k0 (by decide) rfl ?_
  by_cases c1 : (s.1 x0 3) ≤ x1
  · rw [if_pos c1] at h
    refine E_jt rfl rfl c1 ?_
    refine E_blk rfl ?_
    refine E_ps 1 (pc' := 22) (l' := [some (.ref x0), some (.int x1)]) (st' := [.int (0 : Int32)]) rfl ?_
    exact E_wk (l' := [none, none]) trivial (s173_22  h hr)
  · rw [if_neg c1] at h
    refine E_jf rfl rfl c1 ?_
    refine E_blk rfl ?_
    refine E_ps 1 (pc' := 9) (l' := [some (.ref x0), some (.int x1)]) (st' := [.ref x0]) rfl ?_
    obtain ⟨a2, e3, h⟩ := Option.bind_eq_some_iff.mp h
    refine E_gr k0 (by decide) rfl e3 ?_
    refine E_ps 1 (pc' := 13) (l' := [some (.ref x0), some (.int x1)]) (st' := [.int x1, .ref a2]) rfl ?_
    obtain ⟨v4, e5, h⟩ := Option.bind_eq_some_iff.mp h
    refine E_ab e5 ?_
    refine E_ps 2 (pc' := 18) (l' := [some (.ref x0), some (.int x1)]) (st' := [.int (v4 &&& (255 : Int32))]) rfl ?_
    refine E_j rfl rfl ?_
    exact E_wk (l' := [none, none]) trivial (s173_22  h hr)

-- 174: ThreePlatesModel.isLetter(I)Z
def dn174 (o : xH × Option Value) (r : xS × Int32) : Prop := o = (hk_of r.1, some (.int r.2))
noncomputable def f174_17 (y0 : Int32) (s : xS) : Option (xS × Int32) := ifg (y0 = 0 ∨ y0 = 1) <| some (s, y0)
set_option maxRecDepth 20000 in
theorem s174_17 {sc : Option (Nat × (Nat → Int32))} {y0 : Int32} {s : xS} {o : xH × Option Value} {r : (xS × Int32)}  (h : f174_17 y0 s = some r) (hr : dn174 o r) : Ev sc 1 174 [] 17 [none] [.int y0] (hk_of s) o := by
  unfold f174_17 at h
  refine E_blk rfl ?_
  obtain ⟨g1, h⟩ := ifg_some h
  cases h
  exact E_ret rfl (pg_mt_md (by decide)) (hk_retz g1 rfl) hr
noncomputable def f174_16  (s : xS) : Option (xS × Int32) := f174_17 (0 : Int32) s
set_option maxRecDepth 20000 in
theorem s174_16 {sc : Option (Nat × (Nat → Int32))}  {s : xS} {o : xH × Option Value} {r : (xS × Int32)}  (h : f174_16  s = some r) (hr : dn174 o r) : Ev sc 1 174 [] 16 [none] [] (hk_of s) o := by
  unfold f174_16 at h
  refine E_blk rfl ?_
  refine E_ps 1 (pc' := 17) (l' := [none]) (st' := [.int (0 : Int32)]) rfl ?_
  exact E_wk (l' := [none]) trivial (s174_17  h hr)
noncomputable def f174 (x0 : Int32) (s : xS) : Option (xS × Int32) :=  if x0 < (97 : Int32) then (f174_16  s) else (if (122 : Int32) < x0 then (f174_16  s) else (f174_17 (1 : Int32) s))
set_option maxRecDepth 20000 in
theorem s174 {sc : Option (Nat × (Nat → Int32))} {x0 : Int32} {s : xS} {r : xS × Int32} (h : f174 x0 s = some r) : Cl sc 1 174 [.int x0] (hk_of s) (hk_of r.1, some (.int r.2)) := by
  unfold f174 at h
  refine ⟨pg_md 174, [some (.int x0)], pg_mt_md (by decide), rfl, rfl, ?_⟩
  generalize ho : ((hk_of r.1, some (Value.int r.2)) : xH × Option Value) = o
  have hr : dn174 o r := ho.symm
  refine E_blk rfl ?_
  refine E_ps 2 (pc' := 3) (l' := [some (.int x0)]) (st' := [.int (97 : Int32), .int x0]) rfl ?_
  by_cases c1 : x0 < (97 : Int32)
  · rw [if_pos c1] at h
    refine E_jt rfl rfl c1 ?_
    exact E_wk (l' := [none]) trivial (s174_16  h hr)
  · rw [if_neg c1] at h
    refine E_jf rfl rfl c1 ?_
    refine E_blk rfl ?_
    refine E_ps 2 (pc' := 9) (l' := [some (.int x0)]) (st' := [.int (122 : Int32), .int x0]) rfl ?_
    by_cases c2 : (122 : Int32) < x0
    · rw [if_pos c2] at h
      refine E_jt rfl rfl c2 ?_
      exact E_wk (l' := [none]) trivial (s174_16  h hr)
    · rw [if_neg c2] at h
      refine E_jf rfl rfl c2 ?_
      refine E_blk rfl ?_
      refine E_ps 1 (pc' := 13) (l' := [some (.int x0)]) (st' := [.int (1 : Int32)]) rfl ?_
      refine E_j rfl rfl ?_
      exact E_wk (l' := [none]) trivial (s174_17  h hr)

-- 175: ThreePlatesModel.isDigit(I)Z
def dn175 (o : xH × Option Value) (r : xS × Int32) : Prop := o = (hk_of r.1, some (.int r.2))
noncomputable def f175_17 (y0 : Int32) (s : xS) : Option (xS × Int32) := ifg (y0 = 0 ∨ y0 = 1) <| some (s, y0)
set_option maxRecDepth 20000 in
theorem s175_17 {sc : Option (Nat × (Nat → Int32))} {y0 : Int32} {s : xS} {o : xH × Option Value} {r : (xS × Int32)}  (h : f175_17 y0 s = some r) (hr : dn175 o r) : Ev sc 1 175 [] 17 [none] [.int y0] (hk_of s) o := by
  unfold f175_17 at h
  refine E_blk rfl ?_
  obtain ⟨g1, h⟩ := ifg_some h
  cases h
  exact E_ret rfl (pg_mt_md (by decide)) (hk_retz g1 rfl) hr
noncomputable def f175_16  (s : xS) : Option (xS × Int32) := f175_17 (0 : Int32) s
set_option maxRecDepth 20000 in
theorem s175_16 {sc : Option (Nat × (Nat → Int32))}  {s : xS} {o : xH × Option Value} {r : (xS × Int32)}  (h : f175_16  s = some r) (hr : dn175 o r) : Ev sc 1 175 [] 16 [none] [] (hk_of s) o := by
  unfold f175_16 at h
  refine E_blk rfl ?_
  refine E_ps 1 (pc' := 17) (l' := [none]) (st' := [.int (0 : Int32)]) rfl ?_
  exact E_wk (l' := [none]) trivial (s175_17  h hr)
noncomputable def f175 (x0 : Int32) (s : xS) : Option (xS × Int32) :=  if x0 < (48 : Int32) then (f175_16  s) else (if (57 : Int32) < x0 then (f175_16  s) else (f175_17 (1 : Int32) s))
set_option maxRecDepth 20000 in
theorem s175 {sc : Option (Nat × (Nat → Int32))} {x0 : Int32} {s : xS} {r : xS × Int32} (h : f175 x0 s = some r) : Cl sc 1 175 [.int x0] (hk_of s) (hk_of r.1, some (.int r.2)) := by
  unfold f175 at h
  refine ⟨pg_md 175, [some (.int x0)], pg_mt_md (by decide), rfl, rfl, ?_⟩
  generalize ho : ((hk_of r.1, some (Value.int r.2)) : xH × Option Value) = o
  have hr : dn175 o r := ho.symm
  refine E_blk rfl ?_
  refine E_ps 2 (pc' := 3) (l' := [some (.int x0)]) (st' := [.int (48 : Int32), .int x0]) rfl ?_
  by_cases c1 : x0 < (48 : Int32)
  · rw [if_pos c1] at h
    refine E_jt rfl rfl c1 ?_
    exact E_wk (l' := [none]) trivial (s175_16  h hr)
  · rw [if_neg c1] at h
    refine E_jf rfl rfl c1 ?_
    refine E_blk rfl ?_
    refine E_ps 2 (pc' := 9) (l' := [some (.int x0)]) (st' := [.int (57 : Int32), .int x0]) rfl ?_
    by_cases c2 : (57 : Int32) < x0
    · rw [if_pos c2] at h
      refine E_jt rfl rfl c2 ?_
      exact E_wk (l' := [none]) trivial (s175_16  h hr)
    · rw [if_neg c2] at h
      refine E_jf rfl rfl c2 ?_
      refine E_blk rfl ?_
      refine E_ps 1 (pc' := 13) (l' := [some (.int x0)]) (st' := [.int (1 : Int32)]) rfl ?_
      refine E_j rfl rfl ?_
      exact E_wk (l' := [none]) trivial (s175_17  h hr)

-- 176: ThreePlatesModel.fails(II)V
def dn176 (o : xH × Option Value) (r : xS × Unit) : Prop := o = (hk_of r.1, none)
noncomputable def f176 (x0 : Nat) (x1 : Int32) (x2 : Int32) (s : xS) : Option (xS × Unit) := ifg (oK x0 12 = true) <| if (s.1 x0 4) ≤ 0 then ((pI s x0 4 x1).bind fun t2 => (pI t2 x0 5 x2).bind fun t4 => some (t4, ())) else (some (s, ()))
set_option maxRecDepth 20000 in
theorem s176 {sc : Option (Nat × (Nat → Int32))} {x0 : Nat} {x1 : Int32} {x2 : Int32} {s : xS} {r : xS × Unit} (h : f176 x0 x1 x2 s = some r) : Cl sc 1 176 [.ref x0, .int x1, .int x2] (hk_of s) (hk_of r.1, none) := by
  unfold f176 at h
  obtain ⟨k0, h⟩ := ifg_some h
  refine ⟨pg_md 176, [some (.ref x0), some (.int x1), some (.int x2)], pg_mt_md (by decide), (hk_rcv k0), rfl, ?_⟩
  generalize ho : ((hk_of r.1, none) : xH × Option Value) = o
  have hr : dn176 o r := ho.symm
  refine E_blk rfl ?_
  refine E_ps 1 (pc' := 1) (l' := [some (.ref x0), some (.int x1), some (.int x2)]) (st' := [.ref x0]) rfl ?_
  refine E_gi k0 (by decide) rfl ?_
  by_cases c1 : (s.1 x0 4) ≤ 0
  · rw [if_pos c1] at h
    refine E_jt rfl rfl c1 ?_
    refine E_blk rfl ?_
    refine E_ps 2 (pc' := 10) (l' := [some (.ref x0), some (.int x1), some (.int x2)]) (st' := [.int x1, .ref x0]) rfl ?_
    obtain ⟨t2, e3, h⟩ := Option.bind_eq_some_iff.mp h
    refine E_pi k0 (by decide) rfl e3 ?_
    refine E_ps 2 (pc' := 15) (l' := [some (.ref x0), some (.int x1), some (.int x2)]) (st' := [.int x2, .ref x0]) rfl ?_
    obtain ⟨t4, e5, h⟩ := Option.bind_eq_some_iff.mp h
    refine E_pi k0 (by decide) rfl e5 ?_
    cases h
    exact E_ret rfl (pg_mt_md (by decide)) rfl hr
  · rw [if_neg c1] at h
    refine E_jf rfl rfl c1 ?_
    refine E_blk rfl ?_
    cases h
    exact E_ret rfl (pg_mt_md (by decide)) rfl hr

-- 177: ThreePlatesModel.isGood()Z
def dn177 (o : xH × Option Value) (r : xS × Int32) : Prop := o = (hk_of r.1, some (.int r.2))
noncomputable def f177_12 (y0 : Int32) (s : xS) : Option (xS × Int32) := ifg (y0 = 0 ∨ y0 = 1) <| some (s, y0)
set_option maxRecDepth 20000 in
theorem s177_12 {sc : Option (Nat × (Nat → Int32))} {y0 : Int32} {s : xS} {o : xH × Option Value} {r : (xS × Int32)}  (h : f177_12 y0 s = some r) (hr : dn177 o r) : Ev sc 1 177 [] 12 [none] [.int y0] (hk_of s) o := by
  unfold f177_12 at h
  refine E_blk rfl ?_
  obtain ⟨g1, h⟩ := ifg_some h
  cases h
  exact E_ret rfl (pg_mt_md (by decide)) (hk_retz g1 rfl) hr
noncomputable def f177 (x0 : Nat) (s : xS) : Option (xS × Int32) := ifg (oK x0 12 = true) <| if (s.1 x0 4) = 0 then (f177_12 (1 : Int32) s) else (f177_12 (0 : Int32) s)
set_option maxRecDepth 20000 in
theorem s177 {sc : Option (Nat × (Nat → Int32))} {x0 : Nat} {s : xS} {r : xS × Int32} (h : f177 x0 s = some r) : Cl sc 1 177 [.ref x0] (hk_of s) (hk_of r.1, some (.int r.2)) := by
  unfold f177 at h
  obtain ⟨k0, h⟩ := ifg_some h
  refine ⟨pg_md 177, [some (.ref x0)], pg_mt_md (by decide), (hk_rcv k0), rfl, ?_⟩
  generalize ho : ((hk_of r.1, some (Value.int r.2)) : xH × Option Value) = o
  have hr : dn177 o r := ho.symm
  refine E_blk rfl ?_
  refine E_ps 1 (pc' := 1) (l' := [some (.ref x0)]) (st' := [.ref x0]) rfl ?_
  refine E_gi k0 (by decide) rfl ?_
  by_cases c1 : (s.1 x0 4) = 0
  · rw [if_pos c1] at h
    refine E_jt rfl rfl c1 ?_
    refine E_blk rfl ?_
    refine E_ps 1 (pc' := 8) (l' := [some (.ref x0)]) (st' := [.int (1 : Int32)]) rfl ?_
    refine E_j rfl rfl ?_
    exact E_wk (l' := [none]) trivial (s177_12  h hr)
  · rw [if_neg c1] at h
    refine E_jf rfl rfl c1 ?_
    refine E_blk rfl ?_
    refine E_ps 1 (pc' := 12) (l' := [some (.ref x0)]) (st' := [.int (0 : Int32)]) rfl ?_
    exact E_wk (l' := [none]) trivial (s177_12  h hr)

-- 178: ThreePlatesModel.isKept(J)Z
def dn178 (o : xH × Option Value) (r : xS × Int32) : Prop := o = (hk_of r.1, some (.int r.2))
noncomputable def f178_85 (y0 : Int32) (s : xS) : Option (xS × Int32) := ifg (y0 = 0 ∨ y0 = 1) <| some (s, y0)
set_option maxRecDepth 20000 in
theorem s178_85 {sc : Option (Nat × (Nat → Int32))} {y0 : Int32} {s : xS} {o : xH × Option Value} {r : (xS × Int32)}  (h : f178_85 y0 s = some r) (hr : dn178 o r) : Ev sc 1 178 [] 85 [none, none] [.int y0] (hk_of s) o := by
  unfold f178_85 at h
  refine E_blk rfl ?_
  obtain ⟨g1, h⟩ := ifg_some h
  cases h
  exact E_ret rfl (pg_mt_md (by decide)) (hk_retz g1 rfl) hr
noncomputable def f178_80  (s : xS) : Option (xS × Int32) := f178_85 (1 : Int32) s
set_option maxRecDepth 20000 in
theorem s178_80 {sc : Option (Nat × (Nat → Int32))}  {s : xS} {o : xH × Option Value} {r : (xS × Int32)}  (h : f178_80  s = some r) (hr : dn178 o r) : Ev sc 1 178 [] 80 [none, none] [] (hk_of s) o := by
  unfold f178_80 at h
  refine E_blk rfl ?_
  refine E_ps 1 (pc' := 81) (l' := [none, none]) (st' := [.int (1 : Int32)]) rfl ?_
  refine E_j rfl rfl ?_
  exact E_wk (l' := [none, none]) trivial (s178_85  h hr)
noncomputable def f178 (x0 : Int64) (s : xS) : Option (xS × Int32) :=  if (lg_cmp x0 (1936292453 : Int64)) = 0 then (f178_80  s) else (if (lg_cmp x0 (482854663269 : Int64)) = 0 then (f178_80  s) else (if (lg_cmp x0 (7497060 : Int64)) = 0 then (f178_80  s) else (if (lg_cmp x0 (1936484720 : Int64)) = 0 then (f178_80  s) else (if (lg_cmp x0 (7102841 : Int64)) = 0 then (f178_80  s) else (if (lg_cmp x0 (28526 : Int64)) = 0 then (f178_80  s) else (if (lg_cmp x0 (1953854062 : Int64)) = 0 then (f178_80  s) else (if (lg_cmp x0 (25209 : Int64)) = 0 then (f178_80  s) else (if (lg_cmp x0 (126870957944933 : Int64)) = 0 then (f178_80  s) else (if (lg_cmp x0 (1684366704 : Int64)) = 0 then (f178_80  s) else (f178_85 (0 : Int32) s))))))))))
set_option maxRecDepth 20000 in
theorem s178 {sc : Option (Nat × (Nat → Int32))} {x0 : Int64} {s : xS} {r : xS × Int32} (h : f178 x0 s = some r) : Cl sc 1 178 [.long x0] (hk_of s) (hk_of r.1, some (.int r.2)) := by
  unfold f178 at h
  refine ⟨pg_md 178, [some (.long x0), none], pg_mt_md (by decide), rfl, rfl, ?_⟩
  generalize ho : ((hk_of r.1, some (Value.int r.2)) : xH × Option Value) = o
  have hr : dn178 o r := ho.symm
  refine E_blk rfl ?_
  refine E_ps 3 (pc' := 5) (l' := [some (.long x0), none]) (st' := [.int (lg_cmp x0 (1936292453 : Int64))]) rfl ?_
  by_cases c1 : (lg_cmp x0 (1936292453 : Int64)) = 0
  · rw [if_pos c1] at h
    refine E_jt rfl rfl c1 ?_
    exact E_wk (l' := [none, none]) trivial (s178_80  h hr)
  · rw [if_neg c1] at h
    refine E_jf rfl rfl c1 ?_
    refine E_blk rfl ?_
    refine E_ps 3 (pc' := 13) (l' := [some (.long x0), none]) (st' := [.int (lg_cmp x0 (482854663269 : Int64))]) rfl ?_
    by_cases c2 : (lg_cmp x0 (482854663269 : Int64)) = 0
    · rw [if_pos c2] at h
      refine E_jt rfl rfl c2 ?_
      exact E_wk (l' := [none, none]) trivial (s178_80  h hr)
    · rw [if_neg c2] at h
      refine E_jf rfl rfl c2 ?_
      refine E_blk rfl ?_
      refine E_ps 3 (pc' := 21) (l' := [some (.long x0), none]) (st' := [.int (lg_cmp x0 (7497060 : Int64))]) rfl ?_
      by_cases c3 : (lg_cmp x0 (7497060 : Int64)) = 0
      · rw [if_pos c3] at h
        refine E_jt rfl rfl c3 ?_
        exact E_wk (l' := [none, none]) trivial (s178_80  h hr)
      · rw [if_neg c3] at h
        refine E_jf rfl rfl c3 ?_
        refine E_blk rfl ?_
        refine E_ps 3 (pc' := 29) (l' := [some (.long x0), none]) (st' := [.int (lg_cmp x0 (1936484720 : Int64))]) rfl ?_
        by_cases c4 : (lg_cmp x0 (1936484720 : Int64)) = 0
        · rw [if_pos c4] at h
          refine E_jt rfl rfl c4 ?_
          exact E_wk (l' := [none, none]) trivial (s178_80  h hr)
        · rw [if_neg c4] at h
          refine E_jf rfl rfl c4 ?_
          refine E_blk rfl ?_
          refine E_ps 3 (pc' := 37) (l' := [some (.long x0), none]) (st' := [.int (lg_cmp x0 (7102841 : Int64))]) rfl ?_
          by_cases c5 : (lg_cmp x0 (7102841 : Int64)) = 0
          · rw [if_pos c5] at h
            refine E_jt rfl rfl c5 ?_
            exact E_wk (l' := [none, none]) trivial (s178_80  h hr)
          · rw [if_neg c5] at h
            refine E_jf rfl rfl c5 ?_
            refine E_blk rfl ?_
            refine E_ps 3 (pc' := 45) (l' := [some (.long x0), none]) (st' := [.int (lg_cmp x0 (28526 : Int64))]) rfl ?_
            by_cases c6 : (lg_cmp x0 (28526 : Int64)) = 0
            · rw [if_pos c6] at h
              refine E_jt rfl rfl c6 ?_
              exact E_wk (l' := [none, none]) trivial (s178_80  h hr)
            · rw [if_neg c6] at h
              refine E_jf rfl rfl c6 ?_
              refine E_blk rfl ?_
              refine E_ps 3 (pc' := 53) (l' := [some (.long x0), none]) (st' := [.int (lg_cmp x0 (1953854062 : Int64))]) rfl ?_
              by_cases c7 : (lg_cmp x0 (1953854062 : Int64)) = 0
              · rw [if_pos c7] at h
                refine E_jt rfl rfl c7 ?_
                exact E_wk (l' := [none, none]) trivial (s178_80  h hr)
              · rw [if_neg c7] at h
                refine E_jf rfl rfl c7 ?_
                refine E_blk rfl ?_
                refine E_ps 3 (pc' := 61) (l' := [some (.long x0), none]) (st' := [.int (lg_cmp x0 (25209 : Int64))]) rfl ?_
                by_cases c8 : (lg_cmp x0 (25209 : Int64)) = 0
                · rw [if_pos c8] at h
                  refine E_jt rfl rfl c8 ?_
                  exact E_wk (l' := [none, none]) trivial (s178_80  h hr)
                · rw [if_neg c8] at h
                  refine E_jf rfl rfl c8 ?_
                  refine E_blk rfl ?_
                  refine E_ps 3 (pc' := 69) (l' := [some (.long x0), none]) (st' := [.int (lg_cmp x0 (126870957944933 : Int64))]) rfl ?_
                  by_cases c9 : (lg_cmp x0 (126870957944933 : Int64)) = 0
                  · rw [if_pos c9] at h
                    refine E_jt rfl rfl c9 ?_
                    exact E_wk (l' := [none, none]) trivial (s178_80  h hr)
                  · rw [if_neg c9] at h
                    refine E_jf rfl rfl c9 ?_
                    refine E_blk rfl ?_
                    refine E_ps 3 (pc' := 77) (l' := [some (.long x0), none]) (st' := [.int (lg_cmp x0 (1684366704 : Int64))]) rfl ?_
                    by_cases c10 : (lg_cmp x0 (1684366704 : Int64)) = 0
                    · rw [if_pos c10] at h
                      refine E_jt rfl rfl c10 ?_
                      exact E_wk (l' := [none, none]) trivial (s178_80  h hr)
                    · rw [if_neg c10] at h
                      refine E_jf rfl rfl c10 ?_
                      refine E_blk rfl ?_
                      refine E_ps 1 (pc' := 85) (l' := [some (.long x0), none]) (st' := [.int (0 : Int32)]) rfl ?_
                      exact E_wk (l' := [none, none]) trivial (s178_85  h hr)

-- 179: ThreePlatesModel.goOn()V
def dn179 (o : xH × Option Value) (r : xS × Unit) : Prop := o = (hk_of r.1, none)
def dn179_8 (sc : Option (Nat × (Nat → Int32))) (x0 : Nat) (o : xH × Option Value) (r : ((xS) ⊕ (xS × Unit))) : Prop := match r with
  | .inl q => Ev sc 2 179 [] 8 [some (.ref x0), none, none] [] (hk_of q) o
  | .inr r => dn179 o r
def dn179_119 (sc : Option (Nat × (Nat → Int32))) (x0 : Nat) (o : xH × Option Value) (r : ((xS) ⊕ (xS × Unit))) : Prop := match r with
  | .inl q => Ev sc 2 179 [] 119 [some (.ref x0), none, none] [] (hk_of q) o
  | .inr r => dn179 o r
def dn179_156 (sc : Option (Nat × (Nat → Int32))) (x0 : Nat) (o : xH × Option Value) (r : ((Int32 × xS) ⊕ (xS × Unit))) : Prop := match r with
  | .inl q => Ev sc 2 179 [] 156 [some (.ref x0), none, some (.int q.1)] [] (hk_of q.2) o
  | .inr r => dn179 o r
def dn179_259 (sc : Option (Nat × (Nat → Int32))) (x0 : Nat) (o : xH × Option Value) (r : ((xS) ⊕ (xS × Unit))) : Prop := match r with
  | .inl q => Ev sc 2 179 [] 259 [some (.ref x0), none, none] [] (hk_of q) o
  | .inr r => dn179 o r
noncomputable def f179_382  (s : xS) : Option (xS × Unit) := some (s, ())
set_option maxRecDepth 20000 in
theorem s179_382 {sc : Option (Nat × (Nat → Int32))}  {s : xS} {o : xH × Option Value} {r : (xS × Unit)}  (h : f179_382  s = some r) (hr : dn179 o r) : Ev sc 2 179 [] 382 [none, none, none] [] (hk_of s) o := by
  unfold f179_382 at h
  refine E_blk rfl ?_
  cases h
  exact E_ret rfl (pg_mt_md (by decide)) rfl hr
noncomputable def f179_355 (y0 : Int32) (y1 : Nat) (s : xS) : Option (xS × Unit) := (pI s y1 8 y0).bind fun t1 => f179_382  t1
set_option maxRecDepth 20000 in
theorem s179_355 {sc : Option (Nat × (Nat → Int32))} {y0 : Int32} {y1 : Nat} {s : xS} {o : xH × Option Value} {r : (xS × Unit)} (ky1 : oK y1 12 = true) (h : f179_355 y0 y1 s = some r) (hr : dn179 o r) : Ev sc 2 179 [] 355 [none, none, none] [.int y0, .ref y1] (hk_of s) o := by
  unfold f179_355 at h
  refine E_blk rfl ?_
  obtain ⟨t1, e2, h⟩ := Option.bind_eq_some_iff.mp h
  refine E_pi ky1 (by decide) rfl e2 ?_
  refine E_j rfl rfl ?_
  exact E_wk (l' := [none, none, none]) trivial (s179_382  h hr)
noncomputable def f179_309 (x0 : Nat) (s : xS) : Option ((xS) ⊕ (xS × Unit)) := (pI s x0 7 ((s.1 x0 7) + (1 : Int32))).bind fun t1 => some (Sum.inl t1)
set_option maxRecDepth 20000 in
theorem s179_309 {sc : Option (Nat × (Nat → Int32))} {x0 : Nat} {s : xS} {o : xH × Option Value} {r : ((xS) ⊕ (xS × Unit))} (k0 : oK x0 12 = true) (h : f179_309 x0 s = some r) (hr : dn179_259 sc x0 o r) : Ev sc 2 179 [] 309 [some (.ref x0), none, none] [] (hk_of s) o := by
  unfold f179_309 at h
  refine E_blk rfl ?_
  refine E_ps 2 (pc' := 311) (l' := [some (.ref x0), none, none]) (st' := [.ref x0, .ref x0]) rfl ?_
  refine E_gi k0 (by decide) rfl ?_
  refine E_ps 2 (pc' := 316) (l' := [some (.ref x0), none, none]) (st' := [.int ((s.1 x0 7) + (1 : Int32)), .ref x0]) rfl ?_
  obtain ⟨t1, e2, h⟩ := Option.bind_eq_some_iff.mp h
  refine E_pi k0 (by decide) rfl e2 ?_
  refine E_j rfl rfl ?_
  cases h
  exact E_wk (l' := [some (.ref x0), none, none]) ⟨rfl, trivial⟩ hr
noncomputable def f179_350 (y0 : Nat) (s : xS) : Option (xS × Unit) := f179_355 (1 : Int32) y0 s
set_option maxRecDepth 20000 in
theorem s179_350 {sc : Option (Nat × (Nat → Int32))} {y0 : Nat} {s : xS} {o : xH × Option Value} {r : (xS × Unit)} (ky0 : oK y0 12 = true) (h : f179_350 y0 s = some r) (hr : dn179 o r) : Ev sc 2 179 [] 350 [none, none, none] [.ref y0] (hk_of s) o := by
  unfold f179_350 at h
  refine E_blk rfl ?_
  refine E_ps 1 (pc' := 351) (l' := [none, none, none]) (st' := [.int (1 : Int32), .ref y0]) rfl ?_
  refine E_j rfl rfl ?_
  exact E_wk (l' := [none, none, none]) trivial (s179_355 ky0 h hr)
noncomputable def f179_259 (x0 : Nat) (s : xS) : Option ((xS) ⊕ (xS × Unit)) := (f173 x0 (s.1 x0 7) s).bind fun z1 => (f175 z1.2 z1.1).bind fun z3 => if z3.2 = 0 then (Option.map Sum.inr (if (4 : Int32) < ((z3.1.1 x0 7) - (z3.1.1 x0 6)) then (f179_350 x0 z3.1) else ((f173 x0 (z3.1.1 x0 7) z3.1).bind fun z7 => (f174 z7.2 z7.1).bind fun z9 => if z9.2 = 0 then (f179_355 (4 : Int32) x0 z9.1) else (f179_350 x0 z9.1)))) else (if (4 : Int32) ≤ ((z3.1.1 x0 7) - (z3.1.1 x0 6)) then (f179_309 x0 z3.1) else ((f173 x0 (z3.1.1 x0 7) z3.1).bind fun z13 => (pI z13.1 x0 9 ((((10 : Int32) * (z3.1.1 x0 9)) + z13.2) - (48 : Int32))).bind fun t15 => f179_309 x0 t15))
set_option maxRecDepth 20000 in
theorem s179_259 {sc : Option (Nat × (Nat → Int32))} {x0 : Nat} {s : xS} {o : xH × Option Value} {r : ((xS) ⊕ (xS × Unit))} (k0 : oK x0 12 = true) (h : f179_259 x0 s = some r) (hr : dn179_259 sc x0 o r) : Ev sc 2 179 [] 259 [some (.ref x0), none, none] [] (hk_of s) o := by
  unfold f179_259 at h
  refine E_blk rfl ?_
  refine E_ps 2 (pc' := 261) (l' := [some (.ref x0), none, none]) (st' := [.ref x0, .ref x0]) rfl ?_
  refine E_gi k0 (by decide) rfl ?_
  obtain ⟨z1, e2, h⟩ := Option.bind_eq_some_iff.mp h
  refine E_callI (vs := [.ref x0, .int (s.1 x0 7)]) (rest := []) rfl (by decide) rfl rfl (Nat.le_of_ble_eq_true rfl) (s173 e2) (by decide) ?_
  obtain ⟨z3, e4, h⟩ := Option.bind_eq_some_iff.mp h
  refine E_callI (vs := [.int z1.2]) (rest := []) rfl (by decide) rfl rfl (Nat.le_of_ble_eq_true rfl) (s175 e4) (by decide) ?_
  by_cases c5 : z3.2 = 0
  · rw [if_pos c5] at h
    refine E_jt rfl rfl c5 ?_
    obtain ⟨r, h, hr⟩ := lf_some (Dn := dn179_259 sc x0 o) h hr
    refine E_blk rfl ?_
    refine E_ps 2 (pc' := 324) (l' := [some (.ref x0), none, none]) (st' := [.ref x0, .ref x0]) rfl ?_
    refine E_gi k0 (by decide) rfl ?_
    refine E_ps 1 (pc' := 328) (l' := [some (.ref x0), none, none]) (st' := [.ref x0, .int (z3.1.1 x0 7), .ref x0]) rfl ?_
    refine E_gi k0 (by decide) rfl ?_
    refine E_ps 2 (pc' := 333) (l' := [some (.ref x0), none, none]) (st' := [.int (4 : Int32), .int ((z3.1.1 x0 7) - (z3.1.1 x0 6)), .ref x0]) rfl ?_
    by_cases c6 : (4 : Int32) < ((z3.1.1 x0 7) - (z3.1.1 x0 6))
    · rw [if_pos c6] at h
      refine E_jt rfl rfl c6 ?_
      exact E_wk (l' := [none, none, none]) trivial (s179_350 k0 h hr)
    · rw [if_neg c6] at h
      refine E_jf rfl rfl c6 ?_
      refine E_blk rfl ?_
      refine E_ps 2 (pc' := 338) (l' := [some (.ref x0), none, none]) (st' := [.ref x0, .ref x0, .ref x0]) rfl ?_
      refine E_gi k0 (by decide) rfl ?_
      obtain ⟨z7, e8, h⟩ := Option.bind_eq_some_iff.mp h
      refine E_callI (vs := [.ref x0, .int (z3.1.1 x0 7)]) (rest := [.ref x0]) rfl (by decide) rfl rfl (Nat.le_of_ble_eq_true rfl) (s173 e8) (by decide) ?_
      obtain ⟨z9, e10, h⟩ := Option.bind_eq_some_iff.mp h
      refine E_callI (vs := [.int z7.2]) (rest := [.ref x0]) rfl (by decide) rfl rfl (Nat.le_of_ble_eq_true rfl) (s174 e10) (by decide) ?_
      by_cases c11 : z9.2 = 0
      · rw [if_pos c11] at h
        refine E_jt rfl rfl c11 ?_
        refine E_blk rfl ?_
        refine E_ps 1 (pc' := 355) (l' := [some (.ref x0), none, none]) (st' := [.int (4 : Int32), .ref x0]) rfl ?_
        exact E_wk (l' := [none, none, none]) trivial (s179_355 k0 h hr)
      · rw [if_neg c11] at h
        refine E_jf rfl rfl c11 ?_
        exact E_wk (l' := [none, none, none]) trivial (s179_350 k0 h hr)
  · rw [if_neg c5] at h
    refine E_jf rfl rfl c5 ?_
    refine E_blk rfl ?_
    refine E_ps 1 (pc' := 274) (l' := [some (.ref x0), none, none]) (st' := [.ref x0]) rfl ?_
    refine E_gi k0 (by decide) rfl ?_
    refine E_ps 1 (pc' := 278) (l' := [some (.ref x0), none, none]) (st' := [.ref x0, .int (z3.1.1 x0 7)]) rfl ?_
    refine E_gi k0 (by decide) rfl ?_
    refine E_ps 2 (pc' := 283) (l' := [some (.ref x0), none, none]) (st' := [.int (4 : Int32), .int ((z3.1.1 x0 7) - (z3.1.1 x0 6))]) rfl ?_
    by_cases c12 : (4 : Int32) ≤ ((z3.1.1 x0 7) - (z3.1.1 x0 6))
    · rw [if_pos c12] at h
      refine E_jt rfl rfl c12 ?_
      exact E_wk (l' := [some (.ref x0), none, none]) ⟨rfl, trivial⟩ (s179_309 k0 h hr)
    · rw [if_neg c12] at h
      refine E_jf rfl rfl c12 ?_
      refine E_blk rfl ?_
      refine E_ps 3 (pc' := 290) (l' := [some (.ref x0), none, none]) (st' := [.ref x0, .int (10 : Int32), .ref x0]) rfl ?_
      refine E_gi k0 (by decide) rfl ?_
      refine E_ps 3 (pc' := 296) (l' := [some (.ref x0), none, none]) (st' := [.ref x0, .ref x0, .int ((10 : Int32) * (z3.1.1 x0 9)), .ref x0]) rfl ?_
      refine E_gi k0 (by decide) rfl ?_
      obtain ⟨z13, e14, h⟩ := Option.bind_eq_some_iff.mp h
      refine E_callI (vs := [.ref x0, .int (z3.1.1 x0 7)]) (rest := [.int ((10 : Int32) * (z3.1.1 x0 9)), .ref x0]) rfl (by decide) rfl rfl (Nat.le_of_ble_eq_true rfl) (s173 e14) (by decide) ?_
      refine E_ps 3 (pc' := 306) (l' := [some (.ref x0), none, none]) (st' := [.int ((((10 : Int32) * (z3.1.1 x0 9)) + z13.2) - (48 : Int32)), .ref x0]) rfl ?_
      obtain ⟨t15, e16, h⟩ := Option.bind_eq_some_iff.mp h
      refine E_pi k0 (by decide) rfl e16 ?_
      exact E_wk (l' := [some (.ref x0), none, none]) ⟨rfl, trivial⟩ (s179_309 k0 h hr)
theorem s179_259_w {sc : Option (Nat × (Nat → Int32))} {x0 : Nat} {s : xS} {o : xH × Option Value} {r : (xS × Unit)} (k0 : oK x0 12 = true) (h : whl (fun q : (xS) => f179_259 x0 q) s = some r) (hr : dn179 o r) : Ev sc 2 179 [] 259 [some (.ref x0), none, none] [] (hk_of s) o := by
  refine whl_snd (E := fun q : (xS) => Ev sc 2 179 [] 259 [some (.ref x0), none, none] [] (hk_of q) o) (P := fun r => dn179 o r) (fun q r h hr => ?_) h hr
  exact s179_259 k0 h (by cases r <;> exact hr)
noncomputable def f179_233 (y0 : Int32) (y1 : Nat) (s : xS) : Option (xS × Unit) := (pI s y1 8 y0).bind fun t1 => f179_382  t1
set_option maxRecDepth 20000 in
theorem s179_233 {sc : Option (Nat × (Nat → Int32))} {y0 : Int32} {y1 : Nat} {s : xS} {o : xH × Option Value} {r : (xS × Unit)} (ky1 : oK y1 12 = true) (h : f179_233 y0 y1 s = some r) (hr : dn179 o r) : Ev sc 2 179 [] 233 [none, none, none] [.int y0, .ref y1] (hk_of s) o := by
  unfold f179_233 at h
  refine E_blk rfl ?_
  obtain ⟨t1, e2, h⟩ := Option.bind_eq_some_iff.mp h
  refine E_pi ky1 (by decide) rfl e2 ?_
  refine E_j rfl rfl ?_
  exact E_wk (l' := [none, none, none]) trivial (s179_382  h hr)
noncomputable def f179_199 (x0 : Nat) (s : xS) : Option (xS × Unit) := if ((s.1 x0 7) - (s.1 x0 6)) ≤ (8 : Int32) then ((f178 (s.2 x0 10) s).bind fun z2 => if z2.2 = 0 then (f179_233 (2 : Int32) x0 z2.1) else (f179_233 (3 : Int32) x0 z2.1)) else (f179_233 (1 : Int32) x0 s)
set_option maxRecDepth 20000 in
theorem s179_199 {sc : Option (Nat × (Nat → Int32))} {x0 : Nat} {s : xS} {o : xH × Option Value} {r : (xS × Unit)} (k0 : oK x0 12 = true) (h : f179_199 x0 s = some r) (hr : dn179 o r) : Ev sc 2 179 [] 199 [some (.ref x0), none, none] [] (hk_of s) o := by
  unfold f179_199 at h
  refine E_blk rfl ?_
  refine E_ps 2 (pc' := 201) (l' := [some (.ref x0), none, none]) (st' := [.ref x0, .ref x0]) rfl ?_
  refine E_gi k0 (by decide) rfl ?_
  refine E_ps 1 (pc' := 205) (l' := [some (.ref x0), none, none]) (st' := [.ref x0, .int (s.1 x0 7), .ref x0]) rfl ?_
  refine E_gi k0 (by decide) rfl ?_
  refine E_ps 2 (pc' := 211) (l' := [some (.ref x0), none, none]) (st' := [.int (8 : Int32), .int ((s.1 x0 7) - (s.1 x0 6)), .ref x0]) rfl ?_
  by_cases c1 : ((s.1 x0 7) - (s.1 x0 6)) ≤ (8 : Int32)
  · rw [if_pos c1] at h
    refine E_jt rfl rfl c1 ?_
    refine E_blk rfl ?_
    refine E_ps 1 (pc' := 219) (l' := [some (.ref x0), none, none]) (st' := [.ref x0, .ref x0]) rfl ?_
    refine E_gl k0 (by decide) rfl ?_
    obtain ⟨z2, e3, h⟩ := Option.bind_eq_some_iff.mp h
    refine E_callI (vs := [.long (s.2 x0 10)]) (rest := [.ref x0]) rfl (by decide) rfl rfl (Nat.le_of_ble_eq_true rfl) (s178 e3) (by decide) ?_
    by_cases c4 : z2.2 = 0
    · rw [if_pos c4] at h
      refine E_jt rfl rfl c4 ?_
      refine E_blk rfl ?_
      refine E_ps 1 (pc' := 233) (l' := [some (.ref x0), none, none]) (st' := [.int (2 : Int32), .ref x0]) rfl ?_
      exact E_wk (l' := [none, none, none]) trivial (s179_233 k0 h hr)
    · rw [if_neg c4] at h
      refine E_jf rfl rfl c4 ?_
      refine E_blk rfl ?_
      refine E_ps 1 (pc' := 229) (l' := [some (.ref x0), none, none]) (st' := [.int (3 : Int32), .ref x0]) rfl ?_
      refine E_j rfl rfl ?_
      exact E_wk (l' := [none, none, none]) trivial (s179_233 k0 h hr)
  · rw [if_neg c1] at h
    refine E_jf rfl rfl c1 ?_
    refine E_blk rfl ?_
    refine E_ps 1 (pc' := 215) (l' := [some (.ref x0), none, none]) (st' := [.int (1 : Int32), .ref x0]) rfl ?_
    refine E_j rfl rfl ?_
    exact E_wk (l' := [none, none, none]) trivial (s179_233 k0 h hr)
noncomputable def f179_379 (y0 : Int32) (y1 : Nat) (s : xS) : Option (xS × Unit) := (pI s y1 8 y0).bind fun t1 => f179_382  t1
set_option maxRecDepth 20000 in
theorem s179_379 {sc : Option (Nat × (Nat → Int32))} {y0 : Int32} {y1 : Nat} {s : xS} {o : xH × Option Value} {r : (xS × Unit)} (ky1 : oK y1 12 = true) (h : f179_379 y0 y1 s = some r) (hr : dn179 o r) : Ev sc 2 179 [] 379 [none, none, none] [.int y0, .ref y1] (hk_of s) o := by
  unfold f179_379 at h
  refine E_blk rfl ?_
  obtain ⟨t1, e2, h⟩ := Option.bind_eq_some_iff.mp h
  refine E_pi ky1 (by decide) rfl e2 ?_
  exact E_wk (l' := [none, none, none]) trivial (s179_382  h hr)
noncomputable def f179_374 (y0 : Nat) (s : xS) : Option (xS × Unit) := f179_379 (5 : Int32) y0 s
set_option maxRecDepth 20000 in
theorem s179_374 {sc : Option (Nat × (Nat → Int32))} {y0 : Nat} {s : xS} {o : xH × Option Value} {r : (xS × Unit)} (ky0 : oK y0 12 = true) (h : f179_374 y0 s = some r) (hr : dn179 o r) : Ev sc 2 179 [] 374 [none, none, none] [.ref y0] (hk_of s) o := by
  unfold f179_374 at h
  refine E_blk rfl ?_
  refine E_ps 1 (pc' := 375) (l' := [none, none, none]) (st' := [.int (5 : Int32), .ref y0]) rfl ?_
  refine E_j rfl rfl ?_
  exact E_wk (l' := [none, none, none]) trivial (s179_379 ky0 h hr)
noncomputable def f179_156 (x0 : Nat) (x2 : Int32) (s : xS) : Option ((Int32 × xS) ⊕ (xS × Unit)) := if (s.1 x0 7) ≤ x2 then (Option.map Sum.inr (f179_199 x0 s)) else (if ((s.1 x0 6) + (8 : Int32)) ≤ x2 then (Option.map Sum.inr (f179_199 x0 s)) else ((f173 x0 x2 s).bind fun z3 => (pL z3.1 x0 10 (((s.2 x0 10) <<< ((8 : Int32).toInt64 &&& 63)) ||| (z3.2).toInt64)).bind fun t5 => some (Sum.inl ((x2 + (1 : Int32)), t5))))
set_option maxRecDepth 20000 in
theorem s179_156 {sc : Option (Nat × (Nat → Int32))} {x0 : Nat} {x2 : Int32} {s : xS} {o : xH × Option Value} {r : ((Int32 × xS) ⊕ (xS × Unit))} (k0 : oK x0 12 = true) (h : f179_156 x0 x2 s = some r) (hr : dn179_156 sc x0 o r) : Ev sc 2 179 [] 156 [some (.ref x0), none, some (.int x2)] [] (hk_of s) o := by
  unfold f179_156 at h
  refine E_blk rfl ?_
  refine E_ps 2 (pc' := 158) (l' := [some (.ref x0), none, some (.int x2)]) (st' := [.ref x0, .int x2]) rfl ?_
  refine E_gi k0 (by decide) rfl ?_
  by_cases c1 : (s.1 x0 7) ≤ x2
  · rw [if_pos c1] at h
    refine E_jt rfl rfl c1 ?_
    obtain ⟨r, h, hr⟩ := lf_some (Dn := dn179_156 sc x0 o) h hr
    exact E_wk (l' := [some (.ref x0), none, none]) ⟨rfl, trivial⟩ (s179_199 k0 h hr)
  · rw [if_neg c1] at h
    refine E_jf rfl rfl c1 ?_
    refine E_blk rfl ?_
    refine E_ps 2 (pc' := 166) (l' := [some (.ref x0), none, some (.int x2)]) (st' := [.ref x0, .int x2]) rfl ?_
    refine E_gi k0 (by decide) rfl ?_
    refine E_ps 2 (pc' := 172) (l' := [some (.ref x0), none, some (.int x2)]) (st' := [.int ((s.1 x0 6) + (8 : Int32)), .int x2]) rfl ?_
    by_cases c2 : ((s.1 x0 6) + (8 : Int32)) ≤ x2
    · rw [if_pos c2] at h
      refine E_jt rfl rfl c2 ?_
      obtain ⟨r, h, hr⟩ := lf_some (Dn := dn179_156 sc x0 o) h hr
      exact E_wk (l' := [some (.ref x0), none, none]) ⟨rfl, trivial⟩ (s179_199 k0 h hr)
    · rw [if_neg c2] at h
      refine E_jf rfl rfl c2 ?_
      refine E_blk rfl ?_
      refine E_ps 2 (pc' := 177) (l' := [some (.ref x0), none, some (.int x2)]) (st' := [.ref x0, .ref x0]) rfl ?_
      refine E_gl k0 (by decide) rfl ?_
      refine E_ps 4 (pc' := 185) (l' := [some (.ref x0), none, some (.int x2)]) (st' := [.int x2, .ref x0, .long ((s.2 x0 10) <<< ((8 : Int32).toInt64 &&& 63)), .ref x0]) rfl ?_
      obtain ⟨z3, e4, h⟩ := Option.bind_eq_some_iff.mp h
      refine E_callI (vs := [.ref x0, .int x2]) (rest := [.long ((s.2 x0 10) <<< ((8 : Int32).toInt64 &&& 63)), .ref x0]) rfl (by decide) rfl rfl (Nat.le_of_ble_eq_true rfl) (s173 e4) (by decide) ?_
      refine E_ps 2 (pc' := 190) (l' := [some (.ref x0), none, some (.int x2)]) (st' := [.long (((s.2 x0 10) <<< ((8 : Int32).toInt64 &&& 63)) ||| (z3.2).toInt64), .ref x0]) rfl ?_
      obtain ⟨t5, e6, h⟩ := Option.bind_eq_some_iff.mp h
      refine E_pl k0 (by decide) rfl e6 ?_
      refine E_ps 1 (pc' := 196) (l' := [some (.ref x0), none, some (.int (x2 + (1 : Int32)))]) (st' := []) rfl ?_
      refine E_j rfl rfl ?_
      cases h
      exact E_wk (l' := [some (.ref x0), none, some (.int (x2 + (1 : Int32)))]) ⟨rfl, rfl, trivial⟩ hr
theorem s179_156_w {sc : Option (Nat × (Nat → Int32))} {x0 : Nat} {x2 : Int32} {s : xS} {o : xH × Option Value} {r : (xS × Unit)} (k0 : oK x0 12 = true) (h : whl (fun q : (Int32 × xS) => f179_156 x0 q.1 q.2) (x2, s) = some r) (hr : dn179 o r) : Ev sc 2 179 [] 156 [some (.ref x0), none, some (.int x2)] [] (hk_of s) o := by
  refine whl_snd (E := fun q : (Int32 × xS) => Ev sc 2 179 [] 156 [some (.ref x0), none, some (.int q.1)] [] (hk_of q.2) o) (P := fun r => dn179 o r) (fun q r h hr => ?_) h hr
  exact s179_156 k0 h (by cases r <;> exact hr)
noncomputable def f179_119 (x0 : Nat) (s : xS) : Option ((xS) ⊕ (xS × Unit)) := (f173 x0 (s.1 x0 7) s).bind fun z1 => (f174 z1.2 z1.1).bind fun z3 => if z3.2 = 0 then (Option.map Sum.inr ((pL z3.1 x0 10 (0 : Int64)).bind fun t6 => whl (fun q : (Int32 × xS) => f179_156 x0 q.1 q.2) ((t6.1 x0 6), t6))) else ((pI z3.1 x0 7 ((z3.1.1 x0 7) + (1 : Int32))).bind fun t8 => some (Sum.inl t8))
set_option maxRecDepth 20000 in
theorem s179_119 {sc : Option (Nat × (Nat → Int32))} {x0 : Nat} {s : xS} {o : xH × Option Value} {r : ((xS) ⊕ (xS × Unit))} (k0 : oK x0 12 = true) (h : f179_119 x0 s = some r) (hr : dn179_119 sc x0 o r) : Ev sc 2 179 [] 119 [some (.ref x0), none, none] [] (hk_of s) o := by
  unfold f179_119 at h
  refine E_blk rfl ?_
  refine E_ps 2 (pc' := 121) (l' := [some (.ref x0), none, none]) (st' := [.ref x0, .ref x0]) rfl ?_
  refine E_gi k0 (by decide) rfl ?_
  obtain ⟨z1, e2, h⟩ := Option.bind_eq_some_iff.mp h
  refine E_callI (vs := [.ref x0, .int (s.1 x0 7)]) (rest := []) rfl (by decide) rfl rfl (Nat.le_of_ble_eq_true rfl) (s173 e2) (by decide) ?_
  obtain ⟨z3, e4, h⟩ := Option.bind_eq_some_iff.mp h
  refine E_callI (vs := [.int z1.2]) (rest := []) rfl (by decide) rfl rfl (Nat.le_of_ble_eq_true rfl) (s174 e4) (by decide) ?_
  by_cases c5 : z3.2 = 0
  · rw [if_pos c5] at h
    refine E_jt rfl rfl c5 ?_
    obtain ⟨r, h, hr⟩ := lf_some (Dn := dn179_119 sc x0 o) h hr
    refine E_blk rfl ?_
    refine E_ps 2 (pc' := 148) (l' := [some (.ref x0), none, none]) (st' := [.long (0 : Int64), .ref x0]) rfl ?_
    obtain ⟨t6, e7, h⟩ := Option.bind_eq_some_iff.mp h
    refine E_pl k0 (by decide) rfl e7 ?_
    refine E_ps 1 (pc' := 152) (l' := [some (.ref x0), none, none]) (st' := [.ref x0]) rfl ?_
    refine E_gi k0 (by decide) rfl ?_
    refine E_ps 1 (pc' := 156) (l' := [some (.ref x0), none, some (.int (t6.1 x0 6))]) (st' := []) rfl ?_
    exact E_wk (l' := [some (.ref x0), none, some (.int (t6.1 x0 6))]) ⟨rfl, rfl, trivial⟩ (s179_156_w k0 h hr)
  · rw [if_neg c5] at h
    refine E_jf rfl rfl c5 ?_
    refine E_blk rfl ?_
    refine E_ps 2 (pc' := 135) (l' := [some (.ref x0), none, none]) (st' := [.ref x0, .ref x0]) rfl ?_
    refine E_gi k0 (by decide) rfl ?_
    refine E_ps 2 (pc' := 140) (l' := [some (.ref x0), none, none]) (st' := [.int ((z3.1.1 x0 7) + (1 : Int32)), .ref x0]) rfl ?_
    obtain ⟨t8, e9, h⟩ := Option.bind_eq_some_iff.mp h
    refine E_pi k0 (by decide) rfl e9 ?_
    refine E_j rfl rfl ?_
    cases h
    exact E_wk (l' := [some (.ref x0), none, none]) ⟨rfl, trivial⟩ hr
theorem s179_119_w {sc : Option (Nat × (Nat → Int32))} {x0 : Nat} {s : xS} {o : xH × Option Value} {r : (xS × Unit)} (k0 : oK x0 12 = true) (h : whl (fun q : (xS) => f179_119 x0 q) s = some r) (hr : dn179 o r) : Ev sc 2 179 [] 119 [some (.ref x0), none, none] [] (hk_of s) o := by
  refine whl_snd (E := fun q : (xS) => Ev sc 2 179 [] 119 [some (.ref x0), none, none] [] (hk_of q) o) (P := fun r => dn179 o r) (fun q r h hr => ?_) h hr
  exact s179_119 k0 h (by cases r <;> exact hr)
noncomputable def f179_58 (x0 : Nat) (s : xS) : Option (xS × Unit) := (f173 x0 (s.1 x0 6) s).bind fun z1 => (pI z1.1 x0 7 ((z1.1.1 x0 6) + (1 : Int32))).bind fun t3 => if (t3.1 x0 6) < (t3.1 x0 3) then ((f174 z1.2 t3).bind fun z6 => if z6.2 = 0 then ((f175 z1.2 z6.1).bind fun z9 => if z9.2 = 0 then (if z1.2 = (59 : Int32) then (f179_374 x0 z9.1) else (if z1.2 = (45 : Int32) then (f179_374 x0 z9.1) else (f179_379 (1 : Int32) x0 z9.1))) else ((pI z9.1 x0 9 (0 : Int32)).bind fun t14 => (pI t14 x0 7 (t14.1 x0 6)).bind fun t16 => whl (fun q : (xS) => f179_259 x0 q) t16)) else (whl (fun q : (xS) => f179_119 x0 q) z6.1)) else ((pI t3 x0 8 (0 : Int32)).bind fun t18 => (pI t18 x0 6 (t18.1 x0 3)).bind fun t20 => (pI t20 x0 7 (t20.1 x0 3)).bind fun t22 => f179_382  t22)
set_option maxRecDepth 20000 in
theorem s179_58 {sc : Option (Nat × (Nat → Int32))} {x0 : Nat} {s : xS} {o : xH × Option Value} {r : (xS × Unit)} (k0 : oK x0 12 = true) (h : f179_58 x0 s = some r) (hr : dn179 o r) : Ev sc 2 179 [] 58 [some (.ref x0), none, none] [] (hk_of s) o := by
  unfold f179_58 at h
  refine E_blk rfl ?_
  refine E_ps 2 (pc' := 60) (l' := [some (.ref x0), none, none]) (st' := [.ref x0, .ref x0]) rfl ?_
  refine E_gi k0 (by decide) rfl ?_
  obtain ⟨z1, e2, h⟩ := Option.bind_eq_some_iff.mp h
  refine E_callI (vs := [.ref x0, .int (s.1 x0 6)]) (rest := []) rfl (by decide) rfl rfl (Nat.le_of_ble_eq_true rfl) (s173 e2) (by decide) ?_
  refine E_ps 3 (pc' := 69) (l' := [some (.ref x0), some (.int z1.2), none]) (st' := [.ref x0, .ref x0]) rfl ?_
  refine E_gi k0 (by decide) rfl ?_
  refine E_ps 2 (pc' := 74) (l' := [some (.ref x0), some (.int z1.2), none]) (st' := [.int ((z1.1.1 x0 6) + (1 : Int32)), .ref x0]) rfl ?_
  obtain ⟨t3, e4, h⟩ := Option.bind_eq_some_iff.mp h
  refine E_pi k0 (by decide) rfl e4 ?_
  refine E_ps 1 (pc' := 78) (l' := [some (.ref x0), some (.int z1.2), none]) (st' := [.ref x0]) rfl ?_
  refine E_gi k0 (by decide) rfl ?_
  refine E_ps 1 (pc' := 82) (l' := [some (.ref x0), some (.int z1.2), none]) (st' := [.ref x0, .int (t3.1 x0 6)]) rfl ?_
  refine E_gi k0 (by decide) rfl ?_
  by_cases c5 : (t3.1 x0 6) < (t3.1 x0 3)
  · rw [if_pos c5] at h
    refine E_jt rfl rfl c5 ?_
    refine E_blk rfl ?_
    refine E_ps 1 (pc' := 113) (l' := [some (.ref x0), some (.int z1.2), none]) (st' := [.int z1.2]) rfl ?_
    obtain ⟨z6, e7, h⟩ := Option.bind_eq_some_iff.mp h
    refine E_callI (vs := [.int z1.2]) (rest := []) rfl (by decide) rfl rfl (Nat.le_of_ble_eq_true rfl) (s174 e7) (by decide) ?_
    by_cases c8 : z6.2 = 0
    · rw [if_pos c8] at h
      refine E_jt rfl rfl c8 ?_
      refine E_blk rfl ?_
      refine E_ps 1 (pc' := 240) (l' := [some (.ref x0), some (.int z1.2), none]) (st' := [.int z1.2]) rfl ?_
      obtain ⟨z9, e10, h⟩ := Option.bind_eq_some_iff.mp h
      refine E_callI (vs := [.int z1.2]) (rest := []) rfl (by decide) rfl rfl (Nat.le_of_ble_eq_true rfl) (s175 e10) (by decide) ?_
      by_cases c11 : z9.2 = 0
      · rw [if_pos c11] at h
        refine E_jt rfl rfl c11 ?_
        refine E_blk rfl ?_
        refine E_ps 3 (pc' := 365) (l' := [some (.ref x0), some (.int z1.2), none]) (st' := [.int (59 : Int32), .int z1.2, .ref x0]) rfl ?_
        by_cases c12 : z1.2 = (59 : Int32)
        · rw [if_pos c12] at h
          refine E_jt rfl rfl c12 ?_
          exact E_wk (l' := [none, none, none]) trivial (s179_374 k0 h hr)
        · rw [if_neg c12] at h
          refine E_jf rfl rfl c12 ?_
          refine E_blk rfl ?_
          refine E_ps 2 (pc' := 371) (l' := [some (.ref x0), some (.int z1.2), none]) (st' := [.int (45 : Int32), .int z1.2, .ref x0]) rfl ?_
          by_cases c13 : z1.2 = (45 : Int32)
          · rw [if_pos c13] at h
            refine E_jt rfl rfl c13 ?_
            exact E_wk (l' := [none, none, none]) trivial (s179_374 k0 h hr)
          · rw [if_neg c13] at h
            refine E_jf rfl rfl c13 ?_
            refine E_blk rfl ?_
            refine E_ps 1 (pc' := 379) (l' := [some (.ref x0), some (.int z1.2), none]) (st' := [.int (1 : Int32), .ref x0]) rfl ?_
            exact E_wk (l' := [none, none, none]) trivial (s179_379 k0 h hr)
      · rw [if_neg c11] at h
        refine E_jf rfl rfl c11 ?_
        refine E_blk rfl ?_
        refine E_ps 2 (pc' := 248) (l' := [some (.ref x0), some (.int z1.2), none]) (st' := [.int (0 : Int32), .ref x0]) rfl ?_
        obtain ⟨t14, e15, h⟩ := Option.bind_eq_some_iff.mp h
        refine E_pi k0 (by decide) rfl e15 ?_
        refine E_ps 2 (pc' := 253) (l' := [some (.ref x0), some (.int z1.2), none]) (st' := [.ref x0, .ref x0]) rfl ?_
        refine E_gi k0 (by decide) rfl ?_
        obtain ⟨t16, e17, h⟩ := Option.bind_eq_some_iff.mp h
        refine E_pi k0 (by decide) rfl e17 ?_
        exact E_wk (l' := [some (.ref x0), none, none]) ⟨rfl, trivial⟩ (s179_259_w k0 h hr)
    · rw [if_neg c8] at h
      refine E_jf rfl rfl c8 ?_
      exact E_wk (l' := [some (.ref x0), none, none]) ⟨rfl, trivial⟩ (s179_119_w k0 h hr)
  · rw [if_neg c5] at h
    refine E_jf rfl rfl c5 ?_
    refine E_blk rfl ?_
    refine E_ps 2 (pc' := 90) (l' := [some (.ref x0), some (.int z1.2), none]) (st' := [.int (0 : Int32), .ref x0]) rfl ?_
    obtain ⟨t18, e19, h⟩ := Option.bind_eq_some_iff.mp h
    refine E_pi k0 (by decide) rfl e19 ?_
    refine E_ps 2 (pc' := 95) (l' := [some (.ref x0), some (.int z1.2), none]) (st' := [.ref x0, .ref x0]) rfl ?_
    refine E_gi k0 (by decide) rfl ?_
    obtain ⟨t20, e21, h⟩ := Option.bind_eq_some_iff.mp h
    refine E_pi k0 (by decide) rfl e21 ?_
    refine E_ps 2 (pc' := 103) (l' := [some (.ref x0), some (.int z1.2), none]) (st' := [.ref x0, .ref x0]) rfl ?_
    refine E_gi k0 (by decide) rfl ?_
    obtain ⟨t22, e23, h⟩ := Option.bind_eq_some_iff.mp h
    refine E_pi k0 (by decide) rfl e23 ?_
    refine E_j rfl rfl ?_
    exact E_wk (l' := [none, none, none]) trivial (s179_382  h hr)
noncomputable def f179_45 (x0 : Nat) (s : xS) : Option ((xS) ⊕ (xS × Unit)) := (pI s x0 6 ((s.1 x0 6) + (1 : Int32))).bind fun t1 => some (Sum.inl t1)
set_option maxRecDepth 20000 in
theorem s179_45 {sc : Option (Nat × (Nat → Int32))} {x0 : Nat} {s : xS} {o : xH × Option Value} {r : ((xS) ⊕ (xS × Unit))} (k0 : oK x0 12 = true) (h : f179_45 x0 s = some r) (hr : dn179_8 sc x0 o r) : Ev sc 2 179 [] 45 [some (.ref x0), none, none] [] (hk_of s) o := by
  unfold f179_45 at h
  refine E_blk rfl ?_
  refine E_ps 2 (pc' := 47) (l' := [some (.ref x0), none, none]) (st' := [.ref x0, .ref x0]) rfl ?_
  refine E_gi k0 (by decide) rfl ?_
  refine E_ps 2 (pc' := 52) (l' := [some (.ref x0), none, none]) (st' := [.int ((s.1 x0 6) + (1 : Int32)), .ref x0]) rfl ?_
  obtain ⟨t1, e2, h⟩ := Option.bind_eq_some_iff.mp h
  refine E_pi k0 (by decide) rfl e2 ?_
  refine E_j rfl rfl ?_
  cases h
  exact E_wk (l' := [some (.ref x0), none, none]) ⟨rfl, trivial⟩ hr
noncomputable def f179_8 (x0 : Nat) (s : xS) : Option ((xS) ⊕ (xS × Unit)) := if (s.1 x0 3) ≤ (s.1 x0 6) then (Option.map Sum.inr (f179_58 x0 s)) else ((f173 x0 (s.1 x0 6) s).bind fun z2 => if z2.2 = (32 : Int32) then (f179_45 x0 z2.1) else ((f173 x0 (z2.1.1 x0 6) z2.1).bind fun z5 => if z5.2 = (10 : Int32) then (f179_45 x0 z5.1) else (Option.map Sum.inr (f179_58 x0 z5.1))))
set_option maxRecDepth 20000 in
theorem s179_8 {sc : Option (Nat × (Nat → Int32))} {x0 : Nat} {s : xS} {o : xH × Option Value} {r : ((xS) ⊕ (xS × Unit))} (k0 : oK x0 12 = true) (h : f179_8 x0 s = some r) (hr : dn179_8 sc x0 o r) : Ev sc 2 179 [] 8 [some (.ref x0), none, none] [] (hk_of s) o := by
  unfold f179_8 at h
  refine E_blk rfl ?_
  refine E_ps 1 (pc' := 9) (l' := [some (.ref x0), none, none]) (st' := [.ref x0]) rfl ?_
  refine E_gi k0 (by decide) rfl ?_
  refine E_ps 1 (pc' := 13) (l' := [some (.ref x0), none, none]) (st' := [.ref x0, .int (s.1 x0 6)]) rfl ?_
  refine E_gi k0 (by decide) rfl ?_
  by_cases c1 : (s.1 x0 3) ≤ (s.1 x0 6)
  · rw [if_pos c1] at h
    refine E_jt rfl rfl c1 ?_
    obtain ⟨r, h, hr⟩ := lf_some (Dn := dn179_8 sc x0 o) h hr
    exact E_wk (l' := [some (.ref x0), none, none]) ⟨rfl, trivial⟩ (s179_58 k0 h hr)
  · rw [if_neg c1] at h
    refine E_jf rfl rfl c1 ?_
    refine E_blk rfl ?_
    refine E_ps 2 (pc' := 21) (l' := [some (.ref x0), none, none]) (st' := [.ref x0, .ref x0]) rfl ?_
    refine E_gi k0 (by decide) rfl ?_
    obtain ⟨z2, e3, h⟩ := Option.bind_eq_some_iff.mp h
    refine E_callI (vs := [.ref x0, .int (s.1 x0 6)]) (rest := []) rfl (by decide) rfl rfl (Nat.le_of_ble_eq_true rfl) (s173 e3) (by decide) ?_
    refine E_ps 1 (pc' := 29) (l' := [some (.ref x0), none, none]) (st' := [.int (32 : Int32), .int z2.2]) rfl ?_
    by_cases c4 : z2.2 = (32 : Int32)
    · rw [if_pos c4] at h
      refine E_jt rfl rfl c4 ?_
      exact E_wk (l' := [some (.ref x0), none, none]) ⟨rfl, trivial⟩ (s179_45 k0 h hr)
    · rw [if_neg c4] at h
      refine E_jf rfl rfl c4 ?_
      refine E_blk rfl ?_
      refine E_ps 2 (pc' := 34) (l' := [some (.ref x0), none, none]) (st' := [.ref x0, .ref x0]) rfl ?_
      refine E_gi k0 (by decide) rfl ?_
      obtain ⟨z5, e6, h⟩ := Option.bind_eq_some_iff.mp h
      refine E_callI (vs := [.ref x0, .int (z2.1.1 x0 6)]) (rest := []) rfl (by decide) rfl rfl (Nat.le_of_ble_eq_true rfl) (s173 e6) (by decide) ?_
      refine E_ps 1 (pc' := 42) (l' := [some (.ref x0), none, none]) (st' := [.int (10 : Int32), .int z5.2]) rfl ?_
      by_cases c7 : z5.2 = (10 : Int32)
      · rw [if_pos c7] at h
        refine E_jt rfl rfl c7 ?_
        exact E_wk (l' := [some (.ref x0), none, none]) ⟨rfl, trivial⟩ (s179_45 k0 h hr)
      · rw [if_neg c7] at h
        refine E_jf rfl rfl c7 ?_
        obtain ⟨r, h, hr⟩ := lf_some (Dn := dn179_8 sc x0 o) h hr
        exact E_wk (l' := [some (.ref x0), none, none]) ⟨rfl, trivial⟩ (s179_58 k0 h hr)
theorem s179_8_w {sc : Option (Nat × (Nat → Int32))} {x0 : Nat} {s : xS} {o : xH × Option Value} {r : (xS × Unit)} (k0 : oK x0 12 = true) (h : whl (fun q : (xS) => f179_8 x0 q) s = some r) (hr : dn179 o r) : Ev sc 2 179 [] 8 [some (.ref x0), none, none] [] (hk_of s) o := by
  refine whl_snd (E := fun q : (xS) => Ev sc 2 179 [] 8 [some (.ref x0), none, none] [] (hk_of q) o) (P := fun r => dn179 o r) (fun q r h hr => ?_) h hr
  exact s179_8 k0 h (by cases r <;> exact hr)
noncomputable def f179 (x0 : Nat) (s : xS) : Option (xS × Unit) := ifg (oK x0 12 = true) <| (pI s x0 6 (s.1 x0 7)).bind fun t1 => whl (fun q : (xS) => f179_8 x0 q) t1
set_option maxRecDepth 20000 in
theorem s179 {sc : Option (Nat × (Nat → Int32))} {x0 : Nat} {s : xS} {r : xS × Unit} (h : f179 x0 s = some r) : Cl sc 2 179 [.ref x0] (hk_of s) (hk_of r.1, none) := by
  unfold f179 at h
  obtain ⟨k0, h⟩ := ifg_some h
  refine ⟨pg_md 179, [some (.ref x0), none, none], pg_mt_md (by decide), (hk_rcv k0), rfl, ?_⟩
  generalize ho : ((hk_of r.1, none) : xH × Option Value) = o
  have hr : dn179 o r := ho.symm
  refine E_blk rfl ?_
  refine E_ps 2 (pc' := 2) (l' := [some (.ref x0), none, none]) (st' := [.ref x0, .ref x0]) rfl ?_
  refine E_gi k0 (by decide) rfl ?_
  obtain ⟨t1, e2, h⟩ := Option.bind_eq_some_iff.mp h
  refine E_pi k0 (by decide) rfl e2 ?_
  exact E_wk (l' := [some (.ref x0), none, none]) ⟨rfl, trivial⟩ (s179_8_w k0 h hr)

-- 180: ThreePlatesModel.is(I)Z
def dn180 (o : xH × Option Value) (r : xS × Int32) : Prop := o = (hk_of r.1, some (.int r.2))
noncomputable def f180_25 (y0 : Int32) (s : xS) : Option (xS × Int32) := ifg (y0 = 0 ∨ y0 = 1) <| some (s, y0)
set_option maxRecDepth 20000 in
theorem s180_25 {sc : Option (Nat × (Nat → Int32))} {y0 : Int32} {s : xS} {o : xH × Option Value} {r : (xS × Int32)}  (h : f180_25 y0 s = some r) (hr : dn180 o r) : Ev sc 2 180 [] 25 [none, none] [.int y0] (hk_of s) o := by
  unfold f180_25 at h
  refine E_blk rfl ?_
  obtain ⟨g1, h⟩ := ifg_some h
  cases h
  exact E_ret rfl (pg_mt_md (by decide)) (hk_retz g1 rfl) hr
noncomputable def f180_24  (s : xS) : Option (xS × Int32) := f180_25 (0 : Int32) s
set_option maxRecDepth 20000 in
theorem s180_24 {sc : Option (Nat × (Nat → Int32))}  {s : xS} {o : xH × Option Value} {r : (xS × Int32)}  (h : f180_24  s = some r) (hr : dn180 o r) : Ev sc 2 180 [] 24 [none, none] [] (hk_of s) o := by
  unfold f180_24 at h
  refine E_blk rfl ?_
  refine E_ps 1 (pc' := 25) (l' := [none, none]) (st' := [.int (0 : Int32)]) rfl ?_
  exact E_wk (l' := [none, none]) trivial (s180_25  h hr)
noncomputable def f180 (x0 : Nat) (x1 : Int32) (s : xS) : Option (xS × Int32) := ifg (oK x0 12 = true) <| if (s.1 x0 8) = (5 : Int32) then ((f173 x0 (s.1 x0 6) s).bind fun z2 => if z2.2 = x1 then (f180_25 (1 : Int32) z2.1) else (f180_24  z2.1)) else (f180_24  s)
set_option maxRecDepth 20000 in
theorem s180 {sc : Option (Nat × (Nat → Int32))} {x0 : Nat} {x1 : Int32} {s : xS} {r : xS × Int32} (h : f180 x0 x1 s = some r) : Cl sc 2 180 [.ref x0, .int x1] (hk_of s) (hk_of r.1, some (.int r.2)) := by
  unfold f180 at h
  obtain ⟨k0, h⟩ := ifg_some h
  refine ⟨pg_md 180, [some (.ref x0), some (.int x1)], pg_mt_md (by decide), (hk_rcv k0), rfl, ?_⟩
  generalize ho : ((hk_of r.1, some (Value.int r.2)) : xH × Option Value) = o
  have hr : dn180 o r := ho.symm
  refine E_blk rfl ?_
  refine E_ps 1 (pc' := 1) (l' := [some (.ref x0), some (.int x1)]) (st' := [.ref x0]) rfl ?_
  refine E_gi k0 (by decide) rfl ?_
  refine E_ps 1 (pc' := 5) (l' := [some (.ref x0), some (.int x1)]) (st' := [.int (5 : Int32), .int (s.1 x0 8)]) rfl ?_
  by_cases c1 : (s.1 x0 8) = (5 : Int32)
  · rw [if_pos c1] at h
    refine E_jt rfl rfl c1 ?_
    refine E_blk rfl ?_
    refine E_ps 2 (pc' := 10) (l' := [some (.ref x0), some (.int x1)]) (st' := [.ref x0, .ref x0]) rfl ?_
    refine E_gi k0 (by decide) rfl ?_
    obtain ⟨z2, e3, h⟩ := Option.bind_eq_some_iff.mp h
    refine E_callI (vs := [.ref x0, .int (s.1 x0 6)]) (rest := []) rfl (by decide) rfl rfl (Nat.le_of_ble_eq_true rfl) (s173 e3) (by decide) ?_
    refine E_ps 1 (pc' := 17) (l' := [some (.ref x0), some (.int x1)]) (st' := [.int x1, .int z2.2]) rfl ?_
    by_cases c4 : z2.2 = x1
    · rw [if_pos c4] at h
      refine E_jt rfl rfl c4 ?_
      refine E_blk rfl ?_
      refine E_ps 1 (pc' := 21) (l' := [some (.ref x0), some (.int x1)]) (st' := [.int (1 : Int32)]) rfl ?_
      refine E_j rfl rfl ?_
      exact E_wk (l' := [none, none]) trivial (s180_25  h hr)
    · rw [if_neg c4] at h
      refine E_jf rfl rfl c4 ?_
      exact E_wk (l' := [none, none]) trivial (s180_24  h hr)
  · rw [if_neg c1] at h
    refine E_jf rfl rfl c1 ?_
    exact E_wk (l' := [none, none]) trivial (s180_24  h hr)

-- 181: ThreePlatesModel.isWord(J)Z
def dn181 (o : xH × Option Value) (r : xS × Int32) : Prop := o = (hk_of r.1, some (.int r.2))
noncomputable def f181_22 (y0 : Int32) (s : xS) : Option (xS × Int32) := ifg (y0 = 0 ∨ y0 = 1) <| some (s, y0)
set_option maxRecDepth 20000 in
theorem s181_22 {sc : Option (Nat × (Nat → Int32))} {y0 : Int32} {s : xS} {o : xH × Option Value} {r : (xS × Int32)}  (h : f181_22 y0 s = some r) (hr : dn181 o r) : Ev sc 1 181 [] 22 [none, none, none] [.int y0] (hk_of s) o := by
  unfold f181_22 at h
  refine E_blk rfl ?_
  obtain ⟨g1, h⟩ := ifg_some h
  cases h
  exact E_ret rfl (pg_mt_md (by decide)) (hk_retz g1 rfl) hr
noncomputable def f181_21  (s : xS) : Option (xS × Int32) := f181_22 (0 : Int32) s
set_option maxRecDepth 20000 in
theorem s181_21 {sc : Option (Nat × (Nat → Int32))}  {s : xS} {o : xH × Option Value} {r : (xS × Int32)}  (h : f181_21  s = some r) (hr : dn181 o r) : Ev sc 1 181 [] 21 [none, none, none] [] (hk_of s) o := by
  unfold f181_21 at h
  refine E_blk rfl ?_
  refine E_ps 1 (pc' := 22) (l' := [none, none, none]) (st' := [.int (0 : Int32)]) rfl ?_
  exact E_wk (l' := [none, none, none]) trivial (s181_22  h hr)
noncomputable def f181 (x0 : Nat) (x1 : Int64) (s : xS) : Option (xS × Int32) := ifg (oK x0 12 = true) <| if (s.1 x0 8) = (3 : Int32) then (if (lg_cmp (s.2 x0 10) x1) = 0 then (f181_22 (1 : Int32) s) else (f181_21  s)) else (f181_21  s)
set_option maxRecDepth 20000 in
theorem s181 {sc : Option (Nat × (Nat → Int32))} {x0 : Nat} {x1 : Int64} {s : xS} {r : xS × Int32} (h : f181 x0 x1 s = some r) : Cl sc 1 181 [.ref x0, .long x1] (hk_of s) (hk_of r.1, some (.int r.2)) := by
  unfold f181 at h
  obtain ⟨k0, h⟩ := ifg_some h
  refine ⟨pg_md 181, [some (.ref x0), some (.long x1), none], pg_mt_md (by decide), (hk_rcv k0), rfl, ?_⟩
  generalize ho : ((hk_of r.1, some (Value.int r.2)) : xH × Option Value) = o
  have hr : dn181 o r := ho.symm
  refine E_blk rfl ?_
  refine E_ps 1 (pc' := 1) (l' := [some (.ref x0), some (.long x1), none]) (st' := [.ref x0]) rfl ?_
  refine E_gi k0 (by decide) rfl ?_
  refine E_ps 1 (pc' := 5) (l' := [some (.ref x0), some (.long x1), none]) (st' := [.int (3 : Int32), .int (s.1 x0 8)]) rfl ?_
  by_cases c1 : (s.1 x0 8) = (3 : Int32)
  · rw [if_pos c1] at h
    refine E_jt rfl rfl c1 ?_
    refine E_blk rfl ?_
    refine E_ps 1 (pc' := 9) (l' := [some (.ref x0), some (.long x1), none]) (st' := [.ref x0]) rfl ?_
    refine E_gl k0 (by decide) rfl ?_
    refine E_ps 2 (pc' := 14) (l' := [some (.ref x0), some (.long x1), none]) (st' := [.int (lg_cmp (s.2 x0 10) x1)]) rfl ?_
    by_cases c2 : (lg_cmp (s.2 x0 10) x1) = 0
    · rw [if_pos c2] at h
      refine E_jt rfl rfl c2 ?_
      refine E_blk rfl ?_
      refine E_ps 1 (pc' := 18) (l' := [some (.ref x0), some (.long x1), none]) (st' := [.int (1 : Int32)]) rfl ?_
      refine E_j rfl rfl ?_
      exact E_wk (l' := [none, none, none]) trivial (s181_22  h hr)
    · rw [if_neg c2] at h
      refine E_jf rfl rfl c2 ?_
      exact E_wk (l' := [none, none, none]) trivial (s181_21  h hr)
  · rw [if_neg c1] at h
    refine E_jf rfl rfl c1 ?_
    exact E_wk (l' := [none, none, none]) trivial (s181_21  h hr)

-- 182: ThreePlatesModel.wrong()V
def dn182 (o : xH × Option Value) (r : xS × Unit) : Prop := o = (hk_of r.1, none)
noncomputable def f182_14 (x0 : Nat) (y0 : Int32) (y1 : Nat) (s : xS) : Option (xS × Unit) := (f176 y1 y0 (s.1 x0 6) s).bind fun z1 => some (z1.1, ())
set_option maxRecDepth 20000 in
theorem s182_14 {sc : Option (Nat × (Nat → Int32))} {x0 : Nat} {y0 : Int32} {y1 : Nat} {s : xS} {o : xH × Option Value} {r : (xS × Unit)} (k0 : oK x0 12 = true) (ky1 : oK y1 12 = true) (h : f182_14 x0 y0 y1 s = some r) (hr : dn182 o r) : Ev sc 2 182 [] 14 [some (.ref x0)] [.int y0, .ref y1] (hk_of s) o := by
  unfold f182_14 at h
  refine E_blk rfl ?_
  refine E_ps 1 (pc' := 15) (l' := [some (.ref x0)]) (st' := [.ref x0, .int y0, .ref y1]) rfl ?_
  refine E_gi k0 (by decide) rfl ?_
  obtain ⟨z1, e2, h⟩ := Option.bind_eq_some_iff.mp h
  refine E_callV (vs := [.ref y1, .int y0, .int (s.1 x0 6)]) (rest := []) rfl (by decide) rfl rfl (Nat.le_of_ble_eq_true rfl) (s176 e2) (by decide) ?_
  cases h
  exact E_ret rfl (pg_mt_md (by decide)) rfl hr
noncomputable def f182 (x0 : Nat) (s : xS) : Option (xS × Unit) := ifg (oK x0 12 = true) <| if (s.1 x0 8) = (1 : Int32) then (f182_14 x0 (1 : Int32) x0 s) else (f182_14 x0 (2 : Int32) x0 s)
set_option maxRecDepth 20000 in
theorem s182 {sc : Option (Nat × (Nat → Int32))} {x0 : Nat} {s : xS} {r : xS × Unit} (h : f182 x0 s = some r) : Cl sc 2 182 [.ref x0] (hk_of s) (hk_of r.1, none) := by
  unfold f182 at h
  obtain ⟨k0, h⟩ := ifg_some h
  refine ⟨pg_md 182, [some (.ref x0)], pg_mt_md (by decide), (hk_rcv k0), rfl, ?_⟩
  generalize ho : ((hk_of r.1, none) : xH × Option Value) = o
  have hr : dn182 o r := ho.symm
  refine E_blk rfl ?_
  refine E_ps 2 (pc' := 2) (l' := [some (.ref x0)]) (st' := [.ref x0, .ref x0]) rfl ?_
  refine E_gi k0 (by decide) rfl ?_
  refine E_ps 1 (pc' := 6) (l' := [some (.ref x0)]) (st' := [.int (1 : Int32), .int (s.1 x0 8), .ref x0]) rfl ?_
  by_cases c1 : (s.1 x0 8) = (1 : Int32)
  · rw [if_pos c1] at h
    refine E_jt rfl rfl c1 ?_
    refine E_blk rfl ?_
    refine E_ps 1 (pc' := 10) (l' := [some (.ref x0)]) (st' := [.int (1 : Int32), .ref x0]) rfl ?_
    refine E_j rfl rfl ?_
    exact E_wk (l' := [some (.ref x0)]) ⟨rfl, trivial⟩ (s182_14 k0 k0 h hr)
  · rw [if_neg c1] at h
    refine E_jf rfl rfl c1 ?_
    refine E_blk rfl ?_
    refine E_ps 1 (pc' := 14) (l' := [some (.ref x0)]) (st' := [.int (2 : Int32), .ref x0]) rfl ?_
    exact E_wk (l' := [some (.ref x0)]) ⟨rfl, trivial⟩ (s182_14 k0 k0 h hr)

-- 183: ThreePlatesModel.must(Z)V
def dn183 (o : xH × Option Value) (r : xS × Unit) : Prop := o = (hk_of r.1, none)
noncomputable def f183_23  (s : xS) : Option (xS × Unit) := some (s, ())
set_option maxRecDepth 20000 in
theorem s183_23 {sc : Option (Nat × (Nat → Int32))}  {s : xS} {o : xH × Option Value} {r : (xS × Unit)}  (h : f183_23  s = some r) (hr : dn183 o r) : Ev sc 3 183 [] 23 [none, none] [] (hk_of s) o := by
  unfold f183_23 at h
  refine E_blk rfl ?_
  cases h
  exact E_ret rfl (pg_mt_md (by decide)) rfl hr
noncomputable def f183 (x0 : Nat) (x1 : Int32) (s : xS) : Option (xS × Unit) := ifg (oK x0 12 = true) <| (f177 x0 s).bind fun z1 => if z1.2 = 0 then (some (z1.1, ())) else (if x1 = 0 then ((f182 x0 z1.1).bind fun z5 => f183_23  z5.1) else ((f179 x0 z1.1).bind fun z7 => f183_23  z7.1))
set_option maxRecDepth 20000 in
theorem s183 {sc : Option (Nat × (Nat → Int32))} {x0 : Nat} {x1 : Int32} {s : xS} {r : xS × Unit} (h : f183 x0 x1 s = some r) : Cl sc 3 183 [.ref x0, .int x1] (hk_of s) (hk_of r.1, none) := by
  unfold f183 at h
  obtain ⟨k0, h⟩ := ifg_some h
  refine ⟨pg_md 183, [some (.ref x0), some (.int x1)], pg_mt_md (by decide), (hk_rcv k0), rfl, ?_⟩
  generalize ho : ((hk_of r.1, none) : xH × Option Value) = o
  have hr : dn183 o r := ho.symm
  refine E_blk rfl ?_
  refine E_ps 1 (pc' := 1) (l' := [some (.ref x0), some (.int x1)]) (st' := [.ref x0]) rfl ?_
  obtain ⟨z1, e2, h⟩ := Option.bind_eq_some_iff.mp h
  refine E_callI (vs := [.ref x0]) (rest := []) rfl (by decide) rfl rfl (Nat.le_of_ble_eq_true rfl) (s177 e2) (by decide) ?_
  by_cases c3 : z1.2 = 0
  · rw [if_pos c3] at h
    refine E_jt rfl rfl c3 ?_
    refine E_blk rfl ?_
    cases h
    exact E_ret rfl (pg_mt_md (by decide)) rfl hr
  · rw [if_neg c3] at h
    refine E_jf rfl rfl c3 ?_
    refine E_blk rfl ?_
    refine E_ps 1 (pc' := 9) (l' := [some (.ref x0), some (.int x1)]) (st' := [.int x1]) rfl ?_
    by_cases c4 : x1 = 0
    · rw [if_pos c4] at h
      refine E_jt rfl rfl c4 ?_
      refine E_blk rfl ?_
      refine E_ps 1 (pc' := 20) (l' := [some (.ref x0), some (.int x1)]) (st' := [.ref x0]) rfl ?_
      obtain ⟨z5, e6, h⟩ := Option.bind_eq_some_iff.mp h
      refine E_callV (vs := [.ref x0]) (rest := []) rfl (by decide) rfl rfl (Nat.le_of_ble_eq_true rfl) (s182 e6) (by decide) ?_
      exact E_wk (l' := [none, none]) trivial (s183_23  h hr)
    · rw [if_neg c4] at h
      refine E_jf rfl rfl c4 ?_
      refine E_blk rfl ?_
      refine E_ps 1 (pc' := 13) (l' := [some (.ref x0), some (.int x1)]) (st' := [.ref x0]) rfl ?_
      obtain ⟨z7, e8, h⟩ := Option.bind_eq_some_iff.mp h
      refine E_callV (vs := [.ref x0]) (rest := []) rfl (by decide) rfl rfl (Nat.le_of_ble_eq_true rfl) (s179 e8) (by decide) ?_
      refine E_j rfl rfl ?_
      exact E_wk (l' := [none, none]) trivial (s183_23  h hr)

-- 184: ThreePlatesModel.numeral(II)I
def dn184 (o : xH × Option Value) (r : xS × Int32) : Prop := o = (hk_of r.1, some (.int r.2))
noncomputable def f184_81 (y0 : Int32) (s : xS) : Option (xS × Int32) := some (s, y0)
set_option maxRecDepth 20000 in
theorem s184_81 {sc : Option (Nat × (Nat → Int32))} {y0 : Int32} {s : xS} {o : xH × Option Value} {r : (xS × Int32)}  (h : f184_81 y0 s = some r) (hr : dn184 o r) : Ev sc 3 184 [] 81 [none, none, none, none] [.int y0] (hk_of s) o := by
  unfold f184_81 at h
  refine E_blk rfl ?_
  cases h
  exact E_ret rfl (pg_mt_md (by decide)) rfl hr
noncomputable def f184_69 (x0 : Nat) (x1 : Int32) (x3 : Int32) (s : xS) : Option (xS × Int32) := (f177 x0 s).bind fun z1 => if z1.2 = 0 then (f184_81 x1 z1.1) else (f184_81 x3 z1.1)
set_option maxRecDepth 20000 in
theorem s184_69 {sc : Option (Nat × (Nat → Int32))} {x0 : Nat} {x1 : Int32} {x3 : Int32} {s : xS} {o : xH × Option Value} {r : (xS × Int32)} (k0 : oK x0 12 = true) (h : f184_69 x0 x1 x3 s = some r) (hr : dn184 o r) : Ev sc 3 184 [] 69 [some (.ref x0), some (.int x1), none, some (.int x3)] [] (hk_of s) o := by
  unfold f184_69 at h
  refine E_blk rfl ?_
  refine E_ps 1 (pc' := 70) (l' := [some (.ref x0), some (.int x1), none, some (.int x3)]) (st' := [.ref x0]) rfl ?_
  obtain ⟨z1, e2, h⟩ := Option.bind_eq_some_iff.mp h
  refine E_callI (vs := [.ref x0]) (rest := []) rfl (by decide) rfl rfl (Nat.le_of_ble_eq_true rfl) (s177 e2) (by decide) ?_
  by_cases c3 : z1.2 = 0
  · rw [if_pos c3] at h
    refine E_jt rfl rfl c3 ?_
    refine E_blk rfl ?_
    refine E_ps 1 (pc' := 81) (l' := [some (.ref x0), some (.int x1), none, some (.int x3)]) (st' := [.int x1]) rfl ?_
    exact E_wk (l' := [none, none, none, none]) trivial (s184_81  h hr)
  · rw [if_neg c3] at h
    refine E_jf rfl rfl c3 ?_
    refine E_blk rfl ?_
    refine E_ps 1 (pc' := 77) (l' := [some (.ref x0), some (.int x1), none, some (.int x3)]) (st' := [.int x3]) rfl ?_
    refine E_j rfl rfl ?_
    exact E_wk (l' := [none, none, none, none]) trivial (s184_81  h hr)
noncomputable def f184_53 (x0 : Nat) (x1 : Int32) (s : xS) : Option (xS × Int32) := (f177 x0 s).bind fun z1 => if z1.2 = 0 then (f184_69 x0 x1 (s.1 x0 9) z1.1) else ((f179 x0 z1.1).bind fun z4 => f184_69 x0 x1 (s.1 x0 9) z4.1)
set_option maxRecDepth 20000 in
theorem s184_53 {sc : Option (Nat × (Nat → Int32))} {x0 : Nat} {x1 : Int32} {s : xS} {o : xH × Option Value} {r : (xS × Int32)} (k0 : oK x0 12 = true) (h : f184_53 x0 x1 s = some r) (hr : dn184 o r) : Ev sc 3 184 [] 53 [some (.ref x0), some (.int x1), none, none] [] (hk_of s) o := by
  unfold f184_53 at h
  refine E_blk rfl ?_
  refine E_ps 1 (pc' := 54) (l' := [some (.ref x0), some (.int x1), none, none]) (st' := [.ref x0]) rfl ?_
  refine E_gi k0 (by decide) rfl ?_
  refine E_ps 2 (pc' := 59) (l' := [some (.ref x0), some (.int x1), none, some (.int (s.1 x0 9))]) (st' := [.ref x0]) rfl ?_
  obtain ⟨z1, e2, h⟩ := Option.bind_eq_some_iff.mp h
  refine E_callI (vs := [.ref x0]) (rest := []) rfl (by decide) rfl rfl (Nat.le_of_ble_eq_true rfl) (s177 e2) (by decide) ?_
  by_cases c3 : z1.2 = 0
  · rw [if_pos c3] at h
    refine E_jt rfl rfl c3 ?_
    exact E_wk (l' := [some (.ref x0), some (.int x1), none, some (.int (s.1 x0 9))]) ⟨rfl, rfl, rfl, trivial⟩ (s184_69 k0 h hr)
  · rw [if_neg c3] at h
    refine E_jf rfl rfl c3 ?_
    refine E_blk rfl ?_
    refine E_ps 1 (pc' := 66) (l' := [some (.ref x0), some (.int x1), none, some (.int (s.1 x0 9))]) (st' := [.ref x0]) rfl ?_
    obtain ⟨z4, e5, h⟩ := Option.bind_eq_some_iff.mp h
    refine E_callV (vs := [.ref x0]) (rest := []) rfl (by decide) rfl rfl (Nat.le_of_ble_eq_true rfl) (s179 e5) (by decide) ?_
    exact E_wk (l' := [some (.ref x0), some (.int x1), none, some (.int (s.1 x0 9))]) ⟨rfl, rfl, rfl, trivial⟩ (s184_69 k0 h hr)
noncomputable def f184_44 (x0 : Nat) (x1 : Int32) (s : xS) : Option (xS × Int32) := (f176 x0 (4 : Int32) (s.1 x0 6) s).bind fun z1 => f184_53 x0 x1 z1.1
set_option maxRecDepth 20000 in
theorem s184_44 {sc : Option (Nat × (Nat → Int32))} {x0 : Nat} {x1 : Int32} {s : xS} {o : xH × Option Value} {r : (xS × Int32)} (k0 : oK x0 12 = true) (h : f184_44 x0 x1 s = some r) (hr : dn184 o r) : Ev sc 3 184 [] 44 [some (.ref x0), some (.int x1), none, none] [] (hk_of s) o := by
  unfold f184_44 at h
  refine E_blk rfl ?_
  refine E_ps 3 (pc' := 47) (l' := [some (.ref x0), some (.int x1), none, none]) (st' := [.ref x0, .int (4 : Int32), .ref x0]) rfl ?_
  refine E_gi k0 (by decide) rfl ?_
  obtain ⟨z1, e2, h⟩ := Option.bind_eq_some_iff.mp h
  refine E_callV (vs := [.ref x0, .int (4 : Int32), .int (s.1 x0 6)]) (rest := []) rfl (by decide) rfl rfl (Nat.le_of_ble_eq_true rfl) (s176 e2) (by decide) ?_
  exact E_wk (l' := [some (.ref x0), some (.int x1), none, none]) ⟨rfl, rfl, trivial⟩ (s184_53 k0 h hr)
noncomputable def f184_21 (x0 : Nat) (x1 : Int32) (x2 : Int32) (s : xS) : Option (xS × Int32) := (f177 x0 s).bind fun z1 => if z1.2 = 0 then (f184_53 x0 x1 z1.1) else (if (z1.1.1 x0 9) < x1 then (f184_44 x0 x1 z1.1) else (if (z1.1.1 x0 9) ≤ x2 then (f184_53 x0 x1 z1.1) else (f184_44 x0 x1 z1.1)))
set_option maxRecDepth 20000 in
theorem s184_21 {sc : Option (Nat × (Nat → Int32))} {x0 : Nat} {x1 : Int32} {x2 : Int32} {s : xS} {o : xH × Option Value} {r : (xS × Int32)} (k0 : oK x0 12 = true) (h : f184_21 x0 x1 x2 s = some r) (hr : dn184 o r) : Ev sc 3 184 [] 21 [some (.ref x0), some (.int x1), some (.int x2), none] [] (hk_of s) o := by
  unfold f184_21 at h
  refine E_blk rfl ?_
  refine E_ps 1 (pc' := 22) (l' := [some (.ref x0), some (.int x1), some (.int x2), none]) (st' := [.ref x0]) rfl ?_
  obtain ⟨z1, e2, h⟩ := Option.bind_eq_some_iff.mp h
  refine E_callI (vs := [.ref x0]) (rest := []) rfl (by decide) rfl rfl (Nat.le_of_ble_eq_true rfl) (s177 e2) (by decide) ?_
  by_cases c3 : z1.2 = 0
  · rw [if_pos c3] at h
    refine E_jt rfl rfl c3 ?_
    exact E_wk (l' := [some (.ref x0), some (.int x1), none, none]) ⟨rfl, rfl, trivial⟩ (s184_53 k0 h hr)
  · rw [if_neg c3] at h
    refine E_jf rfl rfl c3 ?_
    refine E_blk rfl ?_
    refine E_ps 1 (pc' := 29) (l' := [some (.ref x0), some (.int x1), some (.int x2), none]) (st' := [.ref x0]) rfl ?_
    refine E_gi k0 (by decide) rfl ?_
    refine E_ps 1 (pc' := 33) (l' := [some (.ref x0), some (.int x1), some (.int x2), none]) (st' := [.int x1, .int (z1.1.1 x0 9)]) rfl ?_
    by_cases c4 : (z1.1.1 x0 9) < x1
    · rw [if_pos c4] at h
      refine E_jt rfl rfl c4 ?_
      exact E_wk (l' := [some (.ref x0), some (.int x1), none, none]) ⟨rfl, rfl, trivial⟩ (s184_44 k0 h hr)
    · rw [if_neg c4] at h
      refine E_jf rfl rfl c4 ?_
      refine E_blk rfl ?_
      refine E_ps 1 (pc' := 37) (l' := [some (.ref x0), some (.int x1), some (.int x2), none]) (st' := [.ref x0]) rfl ?_
      refine E_gi k0 (by decide) rfl ?_
      refine E_ps 1 (pc' := 41) (l' := [some (.ref x0), some (.int x1), some (.int x2), none]) (st' := [.int x2, .int (z1.1.1 x0 9)]) rfl ?_
      by_cases c5 : (z1.1.1 x0 9) ≤ x2
      · rw [if_pos c5] at h
        refine E_jt rfl rfl c5 ?_
        exact E_wk (l' := [some (.ref x0), some (.int x1), none, none]) ⟨rfl, rfl, trivial⟩ (s184_53 k0 h hr)
      · rw [if_neg c5] at h
        refine E_jf rfl rfl c5 ?_
        exact E_wk (l' := [some (.ref x0), some (.int x1), none, none]) ⟨rfl, rfl, trivial⟩ (s184_44 k0 h hr)
noncomputable def f184 (x0 : Nat) (x1 : Int32) (x2 : Int32) (s : xS) : Option (xS × Int32) := ifg (oK x0 12 = true) <| (f177 x0 s).bind fun z1 => if z1.2 = 0 then (some (z1.1, x1)) else (if (z1.1.1 x0 8) = (4 : Int32) then (f184_21 x0 x1 x2 z1.1) else ((f182 x0 z1.1).bind fun z5 => f184_21 x0 x1 x2 z5.1))
set_option maxRecDepth 20000 in
theorem s184 {sc : Option (Nat × (Nat → Int32))} {x0 : Nat} {x1 : Int32} {x2 : Int32} {s : xS} {r : xS × Int32} (h : f184 x0 x1 x2 s = some r) : Cl sc 3 184 [.ref x0, .int x1, .int x2] (hk_of s) (hk_of r.1, some (.int r.2)) := by
  unfold f184 at h
  obtain ⟨k0, h⟩ := ifg_some h
  refine ⟨pg_md 184, [some (.ref x0), some (.int x1), some (.int x2), none], pg_mt_md (by decide), (hk_rcv k0), rfl, ?_⟩
  generalize ho : ((hk_of r.1, some (Value.int r.2)) : xH × Option Value) = o
  have hr : dn184 o r := ho.symm
  refine E_blk rfl ?_
  refine E_ps 1 (pc' := 1) (l' := [some (.ref x0), some (.int x1), some (.int x2), none]) (st' := [.ref x0]) rfl ?_
  obtain ⟨z1, e2, h⟩ := Option.bind_eq_some_iff.mp h
  refine E_callI (vs := [.ref x0]) (rest := []) rfl (by decide) rfl rfl (Nat.le_of_ble_eq_true rfl) (s177 e2) (by decide) ?_
  by_cases c3 : z1.2 = 0
  · rw [if_pos c3] at h
    refine E_jt rfl rfl c3 ?_
    refine E_blk rfl ?_
    refine E_ps 1 (pc' := 8) (l' := [some (.ref x0), some (.int x1), some (.int x2), none]) (st' := [.int x1]) rfl ?_
    cases h
    exact E_ret rfl (pg_mt_md (by decide)) rfl hr
  · rw [if_neg c3] at h
    refine E_jf rfl rfl c3 ?_
    refine E_blk rfl ?_
    refine E_ps 1 (pc' := 10) (l' := [some (.ref x0), some (.int x1), some (.int x2), none]) (st' := [.ref x0]) rfl ?_
    refine E_gi k0 (by decide) rfl ?_
    refine E_ps 1 (pc' := 14) (l' := [some (.ref x0), some (.int x1), some (.int x2), none]) (st' := [.int (4 : Int32), .int (z1.1.1 x0 8)]) rfl ?_
    by_cases c4 : (z1.1.1 x0 8) = (4 : Int32)
    · rw [if_pos c4] at h
      refine E_jt rfl rfl c4 ?_
      exact E_wk (l' := [some (.ref x0), some (.int x1), some (.int x2), none]) ⟨rfl, rfl, rfl, trivial⟩ (s184_21 k0 h hr)
    · rw [if_neg c4] at h
      refine E_jf rfl rfl c4 ?_
      refine E_blk rfl ?_
      refine E_ps 1 (pc' := 18) (l' := [some (.ref x0), some (.int x1), some (.int x2), none]) (st' := [.ref x0]) rfl ?_
      obtain ⟨z5, e6, h⟩ := Option.bind_eq_some_iff.mp h
      refine E_callV (vs := [.ref x0]) (rest := []) rfl (by decide) rfl rfl (Nat.le_of_ble_eq_true rfl) (s182 e6) (by decide) ?_
      exact E_wk (l' := [some (.ref x0), some (.int x1), some (.int x2), none]) ⟨rfl, rfl, rfl, trivial⟩ (s184_21 k0 h hr)

-- 185: ThreePlatesModel.signed(II)I
def dn185 (o : xH × Option Value) (r : xS × Int32) : Prop := o = (hk_of r.1, some (.int r.2))
noncomputable def f185_111 (y0 : Int32) (s : xS) : Option (xS × Int32) := some (s, y0)
set_option maxRecDepth 20000 in
theorem s185_111 {sc : Option (Nat × (Nat → Int32))} {y0 : Int32} {s : xS} {o : xH × Option Value} {r : (xS × Int32)}  (h : f185_111 y0 s = some r) (hr : dn185 o r) : Ev sc 3 185 [] 111 [none, none, none, none, none, none] [.int y0] (hk_of s) o := by
  unfold f185_111 at h
  refine E_blk rfl ?_
  cases h
  exact E_ret rfl (pg_mt_md (by decide)) rfl hr
noncomputable def f185_98 (x0 : Nat) (x1 : Int32) (x5 : Int32) (s : xS) : Option (xS × Int32) := (f177 x0 s).bind fun z1 => if z1.2 = 0 then (f185_111 x1 z1.1) else (f185_111 x5 z1.1)
set_option maxRecDepth 20000 in
theorem s185_98 {sc : Option (Nat × (Nat → Int32))} {x0 : Nat} {x1 : Int32} {x5 : Int32} {s : xS} {o : xH × Option Value} {r : (xS × Int32)} (k0 : oK x0 12 = true) (h : f185_98 x0 x1 x5 s = some r) (hr : dn185 o r) : Ev sc 3 185 [] 98 [some (.ref x0), some (.int x1), none, none, none, some (.int x5)] [] (hk_of s) o := by
  unfold f185_98 at h
  refine E_blk rfl ?_
  refine E_ps 1 (pc' := 99) (l' := [some (.ref x0), some (.int x1), none, none, none, some (.int x5)]) (st' := [.ref x0]) rfl ?_
  obtain ⟨z1, e2, h⟩ := Option.bind_eq_some_iff.mp h
  refine E_callI (vs := [.ref x0]) (rest := []) rfl (by decide) rfl rfl (Nat.le_of_ble_eq_true rfl) (s177 e2) (by decide) ?_
  by_cases c3 : z1.2 = 0
  · rw [if_pos c3] at h
    refine E_jt rfl rfl c3 ?_
    refine E_blk rfl ?_
    refine E_ps 1 (pc' := 111) (l' := [some (.ref x0), some (.int x1), none, none, none, some (.int x5)]) (st' := [.int x1]) rfl ?_
    exact E_wk (l' := [none, none, none, none, none, none]) trivial (s185_111  h hr)
  · rw [if_neg c3] at h
    refine E_jf rfl rfl c3 ?_
    refine E_blk rfl ?_
    refine E_ps 1 (pc' := 107) (l' := [some (.ref x0), some (.int x1), none, none, none, some (.int x5)]) (st' := [.int x5]) rfl ?_
    refine E_j rfl rfl ?_
    exact E_wk (l' := [none, none, none, none, none, none]) trivial (s185_111  h hr)
noncomputable def f185_87 (x0 : Nat) (x1 : Int32) (x5 : Int32) (s : xS) : Option (xS × Int32) := (f177 x0 s).bind fun z1 => if z1.2 = 0 then (f185_98 x0 x1 x5 z1.1) else ((f179 x0 z1.1).bind fun z4 => f185_98 x0 x1 x5 z4.1)
set_option maxRecDepth 20000 in
theorem s185_87 {sc : Option (Nat × (Nat → Int32))} {x0 : Nat} {x1 : Int32} {x5 : Int32} {s : xS} {o : xH × Option Value} {r : (xS × Int32)} (k0 : oK x0 12 = true) (h : f185_87 x0 x1 x5 s = some r) (hr : dn185 o r) : Ev sc 3 185 [] 87 [some (.ref x0), some (.int x1), none, none, none, some (.int x5)] [] (hk_of s) o := by
  unfold f185_87 at h
  refine E_blk rfl ?_
  refine E_ps 1 (pc' := 88) (l' := [some (.ref x0), some (.int x1), none, none, none, some (.int x5)]) (st' := [.ref x0]) rfl ?_
  obtain ⟨z1, e2, h⟩ := Option.bind_eq_some_iff.mp h
  refine E_callI (vs := [.ref x0]) (rest := []) rfl (by decide) rfl rfl (Nat.le_of_ble_eq_true rfl) (s177 e2) (by decide) ?_
  by_cases c3 : z1.2 = 0
  · rw [if_pos c3] at h
    refine E_jt rfl rfl c3 ?_
    exact E_wk (l' := [some (.ref x0), some (.int x1), none, none, none, some (.int x5)]) ⟨rfl, rfl, rfl, trivial⟩ (s185_98 k0 h hr)
  · rw [if_neg c3] at h
    refine E_jf rfl rfl c3 ?_
    refine E_blk rfl ?_
    refine E_ps 1 (pc' := 95) (l' := [some (.ref x0), some (.int x1), none, none, none, some (.int x5)]) (st' := [.ref x0]) rfl ?_
    obtain ⟨z4, e5, h⟩ := Option.bind_eq_some_iff.mp h
    refine E_callV (vs := [.ref x0]) (rest := []) rfl (by decide) rfl rfl (Nat.le_of_ble_eq_true rfl) (s179 e5) (by decide) ?_
    exact E_wk (l' := [some (.ref x0), some (.int x1), none, none, none, some (.int x5)]) ⟨rfl, rfl, rfl, trivial⟩ (s185_98 k0 h hr)
noncomputable def f185_81 (x0 : Nat) (x1 : Int32) (x3 : Int32) (x5 : Int32) (s : xS) : Option (xS × Int32) := (f176 x0 (4 : Int32) x3 s).bind fun z1 => f185_87 x0 x1 x5 z1.1
set_option maxRecDepth 20000 in
theorem s185_81 {sc : Option (Nat × (Nat → Int32))} {x0 : Nat} {x1 : Int32} {x3 : Int32} {x5 : Int32} {s : xS} {o : xH × Option Value} {r : (xS × Int32)} (k0 : oK x0 12 = true) (h : f185_81 x0 x1 x3 x5 s = some r) (hr : dn185 o r) : Ev sc 3 185 [] 81 [some (.ref x0), some (.int x1), none, some (.int x3), none, some (.int x5)] [] (hk_of s) o := by
  unfold f185_81 at h
  refine E_blk rfl ?_
  refine E_ps 3 (pc' := 84) (l' := [some (.ref x0), some (.int x1), none, some (.int x3), none, some (.int x5)]) (st' := [.int x3, .int (4 : Int32), .ref x0]) rfl ?_
  obtain ⟨z1, e2, h⟩ := Option.bind_eq_some_iff.mp h
  refine E_callV (vs := [.ref x0, .int (4 : Int32), .int x3]) (rest := []) rfl (by decide) rfl rfl (Nat.le_of_ble_eq_true rfl) (s176 e2) (by decide) ?_
  exact E_wk (l' := [some (.ref x0), some (.int x1), none, none, none, some (.int x5)]) ⟨rfl, rfl, rfl, trivial⟩ (s185_87 k0 h hr)
noncomputable def f185_60 (x0 : Nat) (x1 : Int32) (x2 : Int32) (x3 : Int32) (y0 : Int32) (s : xS) : Option (xS × Int32) := (f177 x0 s).bind fun z1 => if z1.2 = 0 then (f185_87 x0 x1 y0 z1.1) else (if y0 < x1 then (f185_81 x0 x1 x3 y0 z1.1) else (if y0 ≤ x2 then (f185_87 x0 x1 y0 z1.1) else (f185_81 x0 x1 x3 y0 z1.1)))
set_option maxRecDepth 20000 in
theorem s185_60 {sc : Option (Nat × (Nat → Int32))} {x0 : Nat} {x1 : Int32} {x2 : Int32} {x3 : Int32} {y0 : Int32} {s : xS} {o : xH × Option Value} {r : (xS × Int32)} (k0 : oK x0 12 = true) (h : f185_60 x0 x1 x2 x3 y0 s = some r) (hr : dn185 o r) : Ev sc 3 185 [] 60 [some (.ref x0), some (.int x1), some (.int x2), some (.int x3), none, none] [.int y0] (hk_of s) o := by
  unfold f185_60 at h
  refine E_blk rfl ?_
  refine E_ps 2 (pc' := 63) (l' := [some (.ref x0), some (.int x1), some (.int x2), some (.int x3), none, some (.int y0)]) (st' := [.ref x0]) rfl ?_
  obtain ⟨z1, e2, h⟩ := Option.bind_eq_some_iff.mp h
  refine E_callI (vs := [.ref x0]) (rest := []) rfl (by decide) rfl rfl (Nat.le_of_ble_eq_true rfl) (s177 e2) (by decide) ?_
  by_cases c3 : z1.2 = 0
  · rw [if_pos c3] at h
    refine E_jt rfl rfl c3 ?_
    exact E_wk (l' := [some (.ref x0), some (.int x1), none, none, none, some (.int y0)]) ⟨rfl, rfl, rfl, trivial⟩ (s185_87 k0 h hr)
  · rw [if_neg c3] at h
    refine E_jf rfl rfl c3 ?_
    refine E_blk rfl ?_
    refine E_ps 2 (pc' := 72) (l' := [some (.ref x0), some (.int x1), some (.int x2), some (.int x3), none, some (.int y0)]) (st' := [.int x1, .int y0]) rfl ?_
    by_cases c4 : y0 < x1
    · rw [if_pos c4] at h
      refine E_jt rfl rfl c4 ?_
      exact E_wk (l' := [some (.ref x0), some (.int x1), none, some (.int x3), none, some (.int y0)]) ⟨rfl, rfl, rfl, rfl, trivial⟩ (s185_81 k0 h hr)
    · rw [if_neg c4] at h
      refine E_jf rfl rfl c4 ?_
      refine E_blk rfl ?_
      refine E_ps 2 (pc' := 78) (l' := [some (.ref x0), some (.int x1), some (.int x2), some (.int x3), none, some (.int y0)]) (st' := [.int x2, .int y0]) rfl ?_
      by_cases c5 : y0 ≤ x2
      · rw [if_pos c5] at h
        refine E_jt rfl rfl c5 ?_
        exact E_wk (l' := [some (.ref x0), some (.int x1), none, none, none, some (.int y0)]) ⟨rfl, rfl, rfl, trivial⟩ (s185_87 k0 h hr)
      · rw [if_neg c5] at h
        refine E_jf rfl rfl c5 ?_
        exact E_wk (l' := [some (.ref x0), some (.int x1), none, some (.int x3), none, some (.int y0)]) ⟨rfl, rfl, rfl, rfl, trivial⟩ (s185_81 k0 h hr)
noncomputable def f185_43 (x0 : Nat) (x1 : Int32) (x2 : Int32) (x3 : Int32) (x4 : Int32) (s : xS) : Option (xS × Int32) := if x4 = 0 then (f185_60 x0 x1 x2 x3 (s.1 x0 9) s) else (f185_60 x0 x1 x2 x3 (-(s.1 x0 9)) s)
set_option maxRecDepth 20000 in
theorem s185_43 {sc : Option (Nat × (Nat → Int32))} {x0 : Nat} {x1 : Int32} {x2 : Int32} {x3 : Int32} {x4 : Int32} {s : xS} {o : xH × Option Value} {r : (xS × Int32)} (k0 : oK x0 12 = true) (h : f185_43 x0 x1 x2 x3 x4 s = some r) (hr : dn185 o r) : Ev sc 3 185 [] 43 [some (.ref x0), some (.int x1), some (.int x2), some (.int x3), some (.int x4), none] [] (hk_of s) o := by
  unfold f185_43 at h
  refine E_blk rfl ?_
  refine E_ps 1 (pc' := 45) (l' := [some (.ref x0), some (.int x1), some (.int x2), some (.int x3), some (.int x4), none]) (st' := [.int x4]) rfl ?_
  by_cases c1 : x4 = 0
  · rw [if_pos c1] at h
    refine E_jt rfl rfl c1 ?_
    refine E_blk rfl ?_
    refine E_ps 1 (pc' := 57) (l' := [some (.ref x0), some (.int x1), some (.int x2), some (.int x3), some (.int x4), none]) (st' := [.ref x0]) rfl ?_
    refine E_gi k0 (by decide) rfl ?_
    exact E_wk (l' := [some (.ref x0), some (.int x1), some (.int x2), some (.int x3), none, none]) ⟨rfl, rfl, rfl, rfl, trivial⟩ (s185_60 k0 h hr)
  · rw [if_neg c1] at h
    refine E_jf rfl rfl c1 ?_
    refine E_blk rfl ?_
    refine E_ps 1 (pc' := 49) (l' := [some (.ref x0), some (.int x1), some (.int x2), some (.int x3), some (.int x4), none]) (st' := [.ref x0]) rfl ?_
    refine E_gi k0 (by decide) rfl ?_
    refine E_ps 1 (pc' := 53) (l' := [some (.ref x0), some (.int x1), some (.int x2), some (.int x3), some (.int x4), none]) (st' := [.int (-(s.1 x0 9))]) rfl ?_
    refine E_j rfl rfl ?_
    exact E_wk (l' := [some (.ref x0), some (.int x1), some (.int x2), some (.int x3), none, none]) ⟨rfl, rfl, rfl, rfl, trivial⟩ (s185_60 k0 h hr)
noncomputable def f185_31 (x0 : Nat) (x1 : Int32) (x2 : Int32) (x3 : Int32) (x4 : Int32) (s : xS) : Option (xS × Int32) := if (s.1 x0 8) = (4 : Int32) then (f185_43 x0 x1 x2 x3 x4 s) else ((f182 x0 s).bind fun z2 => f185_43 x0 x1 x2 x3 x4 z2.1)
set_option maxRecDepth 20000 in
theorem s185_31 {sc : Option (Nat × (Nat → Int32))} {x0 : Nat} {x1 : Int32} {x2 : Int32} {x3 : Int32} {x4 : Int32} {s : xS} {o : xH × Option Value} {r : (xS × Int32)} (k0 : oK x0 12 = true) (h : f185_31 x0 x1 x2 x3 x4 s = some r) (hr : dn185 o r) : Ev sc 3 185 [] 31 [some (.ref x0), some (.int x1), some (.int x2), some (.int x3), some (.int x4), none] [] (hk_of s) o := by
  unfold f185_31 at h
  refine E_blk rfl ?_
  refine E_ps 1 (pc' := 32) (l' := [some (.ref x0), some (.int x1), some (.int x2), some (.int x3), some (.int x4), none]) (st' := [.ref x0]) rfl ?_
  refine E_gi k0 (by decide) rfl ?_
  refine E_ps 1 (pc' := 36) (l' := [some (.ref x0), some (.int x1), some (.int x2), some (.int x3), some (.int x4), none]) (st' := [.int (4 : Int32), .int (s.1 x0 8)]) rfl ?_
  by_cases c1 : (s.1 x0 8) = (4 : Int32)
  · rw [if_pos c1] at h
    refine E_jt rfl rfl c1 ?_
    exact E_wk (l' := [some (.ref x0), some (.int x1), some (.int x2), some (.int x3), some (.int x4), none]) ⟨rfl, rfl, rfl, rfl, rfl, trivial⟩ (s185_43 k0 h hr)
  · rw [if_neg c1] at h
    refine E_jf rfl rfl c1 ?_
    refine E_blk rfl ?_
    refine E_ps 1 (pc' := 40) (l' := [some (.ref x0), some (.int x1), some (.int x2), some (.int x3), some (.int x4), none]) (st' := [.ref x0]) rfl ?_
    obtain ⟨z2, e3, h⟩ := Option.bind_eq_some_iff.mp h
    refine E_callV (vs := [.ref x0]) (rest := []) rfl (by decide) rfl rfl (Nat.le_of_ble_eq_true rfl) (s182 e3) (by decide) ?_
    exact E_wk (l' := [some (.ref x0), some (.int x1), some (.int x2), some (.int x3), some (.int x4), none]) ⟨rfl, rfl, rfl, rfl, rfl, trivial⟩ (s185_43 k0 h hr)
noncomputable def f185 (x0 : Nat) (x1 : Int32) (x2 : Int32) (s : xS) : Option (xS × Int32) := ifg (oK x0 12 = true) <| (f177 x0 s).bind fun z1 => if z1.2 = 0 then (some (z1.1, x1)) else ((f180 x0 (45 : Int32) z1.1).bind fun z4 => if z4.2 = 0 then (f185_31 x0 x1 x2 (z1.1.1 x0 6) z4.2 z4.1) else ((f179 x0 z4.1).bind fun z7 => f185_31 x0 x1 x2 (z1.1.1 x0 6) z4.2 z7.1))
set_option maxRecDepth 20000 in
theorem s185 {sc : Option (Nat × (Nat → Int32))} {x0 : Nat} {x1 : Int32} {x2 : Int32} {s : xS} {r : xS × Int32} (h : f185 x0 x1 x2 s = some r) : Cl sc 3 185 [.ref x0, .int x1, .int x2] (hk_of s) (hk_of r.1, some (.int r.2)) := by
  unfold f185 at h
  obtain ⟨k0, h⟩ := ifg_some h
  refine ⟨pg_md 185, [some (.ref x0), some (.int x1), some (.int x2), none, none, none], pg_mt_md (by decide), (hk_rcv k0), rfl, ?_⟩
  generalize ho : ((hk_of r.1, some (Value.int r.2)) : xH × Option Value) = o
  have hr : dn185 o r := ho.symm
  refine E_blk rfl ?_
  refine E_ps 1 (pc' := 1) (l' := [some (.ref x0), some (.int x1), some (.int x2), none, none, none]) (st' := [.ref x0]) rfl ?_
  obtain ⟨z1, e2, h⟩ := Option.bind_eq_some_iff.mp h
  refine E_callI (vs := [.ref x0]) (rest := []) rfl (by decide) rfl rfl (Nat.le_of_ble_eq_true rfl) (s177 e2) (by decide) ?_
  by_cases c3 : z1.2 = 0
  · rw [if_pos c3] at h
    refine E_jt rfl rfl c3 ?_
    refine E_blk rfl ?_
    refine E_ps 1 (pc' := 8) (l' := [some (.ref x0), some (.int x1), some (.int x2), none, none, none]) (st' := [.int x1]) rfl ?_
    cases h
    exact E_ret rfl (pg_mt_md (by decide)) rfl hr
  · rw [if_neg c3] at h
    refine E_jf rfl rfl c3 ?_
    refine E_blk rfl ?_
    refine E_ps 1 (pc' := 10) (l' := [some (.ref x0), some (.int x1), some (.int x2), none, none, none]) (st' := [.ref x0]) rfl ?_
    refine E_gi k0 (by decide) rfl ?_
    refine E_ps 3 (pc' := 17) (l' := [some (.ref x0), some (.int x1), some (.int x2), some (.int (z1.1.1 x0 6)), none, none]) (st' := [.int (45 : Int32), .ref x0]) rfl ?_
    obtain ⟨z4, e5, h⟩ := Option.bind_eq_some_iff.mp h
    refine E_callI (vs := [.ref x0, .int (45 : Int32)]) (rest := []) rfl (by decide) rfl rfl (Nat.le_of_ble_eq_true rfl) (s180 e5) (by decide) ?_
    refine E_ps 2 (pc' := 24) (l' := [some (.ref x0), some (.int x1), some (.int x2), some (.int (z1.1.1 x0 6)), some (.int z4.2), none]) (st' := [.int z4.2]) rfl ?_
    by_cases c6 : z4.2 = 0
    · rw [if_pos c6] at h
      refine E_jt rfl rfl c6 ?_
      exact E_wk (l' := [some (.ref x0), some (.int x1), some (.int x2), some (.int (z1.1.1 x0 6)), some (.int z4.2), none]) ⟨rfl, rfl, rfl, rfl, rfl, trivial⟩ (s185_31 k0 h hr)
    · rw [if_neg c6] at h
      refine E_jf rfl rfl c6 ?_
      refine E_blk rfl ?_
      refine E_ps 1 (pc' := 28) (l' := [some (.ref x0), some (.int x1), some (.int x2), some (.int (z1.1.1 x0 6)), some (.int z4.2), none]) (st' := [.ref x0]) rfl ?_
      obtain ⟨z7, e8, h⟩ := Option.bind_eq_some_iff.mp h
      refine E_callV (vs := [.ref x0]) (rest := []) rfl (by decide) rfl rfl (Nat.le_of_ble_eq_true rfl) (s179 e8) (by decide) ?_
      exact E_wk (l' := [some (.ref x0), some (.int x1), some (.int x2), some (.int (z1.1.1 x0 6)), some (.int z4.2), none]) ⟨rfl, rfl, rfl, rfl, rfl, trivial⟩ (s185_31 k0 h hr)

-- 186: ThreePlatesModel.takeText()V
def dn186 (o : xH × Option Value) (r : xS × Unit) : Prop := o = (hk_of r.1, none)
def dn186_20 (sc : Option (Nat × (Nat → Int32))) (x0 : Nat) (o : xH × Option Value) (r : ((Int32 × xS) ⊕ (xS × Unit))) : Prop := match r with
  | .inl q => Ev sc 1 186 [] 20 [some (.ref x0), some (.int q.1)] [] (hk_of q.2) o
  | .inr r => dn186 o r
noncomputable def f186_20 (x0 : Nat) (x1 : Int32) (s : xS) : Option ((Int32 × xS) ⊕ (xS × Unit)) := if (s.1 x0 3) ≤ x1 then (Option.map Sum.inr ((pI s x0 2 (0 : Int32)).bind fun t2 => (pI t2 x0 7 (0 : Int32)).bind fun t4 => some (t4, ()))) else ((hk_R x0 1).bind fun a6 => (hk_R x0 0).bind fun a8 => (aB s a8 x1).bind fun v10 => (wB s a6 x1 v10).bind fun t12 => some (Sum.inl ((x1 + (1 : Int32)), t12)))
set_option maxRecDepth 20000 in
theorem s186_20 {sc : Option (Nat × (Nat → Int32))} {x0 : Nat} {x1 : Int32} {s : xS} {o : xH × Option Value} {r : ((Int32 × xS) ⊕ (xS × Unit))} (k0 : oK x0 12 = true) (h : f186_20 x0 x1 s = some r) (hr : dn186_20 sc x0 o r) : Ev sc 1 186 [] 20 [some (.ref x0), some (.int x1)] [] (hk_of s) o := by
  unfold f186_20 at h
  refine E_blk rfl ?_
  refine E_ps 2 (pc' := 22) (l' := [some (.ref x0), some (.int x1)]) (st' := [.ref x0, .int x1]) rfl ?_
  refine E_gi k0 (by decide) rfl ?_
  by_cases c1 : (s.1 x0 3) ≤ x1
  · rw [if_pos c1] at h
    refine E_jt rfl rfl c1 ?_
    obtain ⟨r, h, hr⟩ := lf_some (Dn := dn186_20 sc x0 o) h hr
    refine E_blk rfl ?_
    refine E_ps 2 (pc' := 48) (l' := [some (.ref x0), some (.int x1)]) (st' := [.int (0 : Int32), .ref x0]) rfl ?_
    obtain ⟨t2, e3, h⟩ := Option.bind_eq_some_iff.mp h
    refine E_pi k0 (by decide) rfl e3 ?_
    refine E_ps 2 (pc' := 53) (l' := [some (.ref x0), some (.int x1)]) (st' := [.int (0 : Int32), .ref x0]) rfl ?_
    obtain ⟨t4, e5, h⟩ := Option.bind_eq_some_iff.mp h
    refine E_pi k0 (by decide) rfl e5 ?_
    cases h
    exact E_ret rfl (pg_mt_md (by decide)) rfl hr
  · rw [if_neg c1] at h
    refine E_jf rfl rfl c1 ?_
    refine E_blk rfl ?_
    refine E_ps 1 (pc' := 29) (l' := [some (.ref x0), some (.int x1)]) (st' := [.ref x0]) rfl ?_
    obtain ⟨a6, e7, h⟩ := Option.bind_eq_some_iff.mp h
    refine E_gr k0 (by decide) rfl e7 ?_
    refine E_ps 2 (pc' := 34) (l' := [some (.ref x0), some (.int x1)]) (st' := [.ref x0, .int x1, .ref a6]) rfl ?_
    obtain ⟨a8, e9, h⟩ := Option.bind_eq_some_iff.mp h
    refine E_gr k0 (by decide) rfl e9 ?_
    refine E_ps 1 (pc' := 38) (l' := [some (.ref x0), some (.int x1)]) (st' := [.int x1, .ref a8, .int x1, .ref a6]) rfl ?_
    obtain ⟨v10, e11, h⟩ := Option.bind_eq_some_iff.mp h
    refine E_ab e11 ?_
    obtain ⟨t12, e13, h⟩ := Option.bind_eq_some_iff.mp h
    refine E_wb e13 ?_
    refine E_ps 1 (pc' := 43) (l' := [some (.ref x0), some (.int (x1 + (1 : Int32)))]) (st' := []) rfl ?_
    refine E_j rfl rfl ?_
    cases h
    exact E_wk (l' := [some (.ref x0), some (.int (x1 + (1 : Int32)))]) ⟨rfl, rfl, trivial⟩ hr
theorem s186_20_w {sc : Option (Nat × (Nat → Int32))} {x0 : Nat} {x1 : Int32} {s : xS} {o : xH × Option Value} {r : (xS × Unit)} (k0 : oK x0 12 = true) (h : whl (fun q : (Int32 × xS) => f186_20 x0 q.1 q.2) (x1, s) = some r) (hr : dn186 o r) : Ev sc 1 186 [] 20 [some (.ref x0), some (.int x1)] [] (hk_of s) o := by
  refine whl_snd (E := fun q : (Int32 × xS) => Ev sc 1 186 [] 20 [some (.ref x0), some (.int q.1)] [] (hk_of q.2) o) (P := fun r => dn186 o r) (fun q r h hr => ?_) h hr
  exact s186_20 k0 h (by cases r <;> exact hr)
noncomputable def f186 (x0 : Nat) (s : xS) : Option (xS × Unit) := ifg (oK x0 12 = true) <| (pI s x0 4 (0 : Int32)).bind fun t1 => (pI t1 x0 5 (-1 : Int32)).bind fun t3 => (pI t3 x0 3 (t3.1 x0 2)).bind fun t5 => whl (fun q : (Int32 × xS) => f186_20 x0 q.1 q.2) ((0 : Int32), t5)
set_option maxRecDepth 20000 in
theorem s186 {sc : Option (Nat × (Nat → Int32))} {x0 : Nat} {s : xS} {r : xS × Unit} (h : f186 x0 s = some r) : Cl sc 1 186 [.ref x0] (hk_of s) (hk_of r.1, none) := by
  unfold f186 at h
  obtain ⟨k0, h⟩ := ifg_some h
  refine ⟨pg_md 186, [some (.ref x0), none], pg_mt_md (by decide), (hk_rcv k0), rfl, ?_⟩
  generalize ho : ((hk_of r.1, none) : xH × Option Value) = o
  have hr : dn186 o r := ho.symm
  refine E_blk rfl ?_
  refine E_ps 2 (pc' := 2) (l' := [some (.ref x0), none]) (st' := [.int (0 : Int32), .ref x0]) rfl ?_
  obtain ⟨t1, e2, h⟩ := Option.bind_eq_some_iff.mp h
  refine E_pi k0 (by decide) rfl e2 ?_
  refine E_ps 2 (pc' := 7) (l' := [some (.ref x0), none]) (st' := [.int (-1 : Int32), .ref x0]) rfl ?_
  obtain ⟨t3, e4, h⟩ := Option.bind_eq_some_iff.mp h
  refine E_pi k0 (by decide) rfl e4 ?_
  refine E_ps 2 (pc' := 12) (l' := [some (.ref x0), none]) (st' := [.ref x0, .ref x0]) rfl ?_
  refine E_gi k0 (by decide) rfl ?_
  obtain ⟨t5, e6, h⟩ := Option.bind_eq_some_iff.mp h
  refine E_pi k0 (by decide) rfl e6 ?_
  refine E_ps 2 (pc' := 20) (l' := [some (.ref x0), some (.int (0 : Int32))]) (st' := []) rfl ?_
  exact E_wk (l' := [some (.ref x0), some (.int (0 : Int32))]) ⟨rfl, rfl, trivial⟩ (s186_20_w k0 h hr)

-- 189: ThreePlatesModel.plateHere(I)I
def dn189 (o : xH × Option Value) (r : xS × Int32) : Prop := o = (hk_of r.1, some (.int r.2))
def dn189_2 (sc : Option (Nat × (Nat → Int32))) (x0 : Nat) (x1 : Int32) (o : xH × Option Value) (r : ((Int32 × xS) ⊕ (xS × Int32))) : Prop := match r with
  | .inl q => Ev sc 1 189 [] 2 [some (.ref x0), some (.int x1), some (.int q.1)] [] (hk_of q.2) o
  | .inr r => dn189 o r
noncomputable def f189_40 (x0 : Nat) (x1 : Int32) (x2 : Int32) (s : xS) : Option ((Int32 × xS) ⊕ (xS × Int32)) := some (Sum.inl ((x2 + (1 : Int32)), s))
set_option maxRecDepth 20000 in
theorem s189_40 {sc : Option (Nat × (Nat → Int32))} {x0 : Nat} {x1 : Int32} {x2 : Int32} {s : xS} {o : xH × Option Value} {r : ((Int32 × xS) ⊕ (xS × Int32))} (k0 : oK x0 12 = true) (h : f189_40 x0 x1 x2 s = some r) (hr : dn189_2 sc x0 x1 o r) : Ev sc 1 189 [] 40 [some (.ref x0), some (.int x1), some (.int x2)] [] (hk_of s) o := by
  unfold f189_40 at h
  refine E_blk rfl ?_
  refine E_ps 1 (pc' := 43) (l' := [some (.ref x0), some (.int x1), some (.int (x2 + (1 : Int32)))]) (st' := []) rfl ?_
  refine E_j rfl rfl ?_
  cases h
  exact E_wk (l' := [some (.ref x0), some (.int x1), some (.int (x2 + (1 : Int32)))]) ⟨rfl, rfl, rfl, trivial⟩ hr
noncomputable def f189_2 (x0 : Nat) (x1 : Int32) (x2 : Int32) (s : xS) : Option ((Int32 × xS) ⊕ (xS × Int32)) := (hk_R x0 12).bind fun a1 => (aI s a1 x1).bind fun v3 => if v3 ≤ x2 then (Option.map Sum.inr (some (s, (-1 : Int32)))) else (if (s.1 x0 8) = (2 : Int32) then ((hk_R x0 19).bind fun a7 => (aL s a7 (((4 : Int32) * x1) + x2)).bind fun v9 => if (lg_cmp v9 (s.2 x0 10)) = 0 then (Option.map Sum.inr (some (s, x2))) else (f189_40 x0 x1 x2 s)) else (f189_40 x0 x1 x2 s))
set_option maxRecDepth 20000 in
theorem s189_2 {sc : Option (Nat × (Nat → Int32))} {x0 : Nat} {x1 : Int32} {x2 : Int32} {s : xS} {o : xH × Option Value} {r : ((Int32 × xS) ⊕ (xS × Int32))} (k0 : oK x0 12 = true) (h : f189_2 x0 x1 x2 s = some r) (hr : dn189_2 sc x0 x1 o r) : Ev sc 1 189 [] 2 [some (.ref x0), some (.int x1), some (.int x2)] [] (hk_of s) o := by
  unfold f189_2 at h
  refine E_blk rfl ?_
  refine E_ps 2 (pc' := 4) (l' := [some (.ref x0), some (.int x1), some (.int x2)]) (st' := [.ref x0, .int x2]) rfl ?_
  obtain ⟨a1, e2, h⟩ := Option.bind_eq_some_iff.mp h
  refine E_gr k0 (by decide) rfl e2 ?_
  refine E_ps 1 (pc' := 8) (l' := [some (.ref x0), some (.int x1), some (.int x2)]) (st' := [.int x1, .ref a1, .int x2]) rfl ?_
  obtain ⟨v3, e4, h⟩ := Option.bind_eq_some_iff.mp h
  refine E_ai e4 ?_
  by_cases c5 : v3 ≤ x2
  · rw [if_pos c5] at h
    refine E_jt rfl rfl c5 ?_
    obtain ⟨r, h, hr⟩ := lf_some (Dn := dn189_2 sc x0 x1 o) h hr
    refine E_blk rfl ?_
    refine E_ps 1 (pc' := 47) (l' := [some (.ref x0), some (.int x1), some (.int x2)]) (st' := [.int (-1 : Int32)]) rfl ?_
    cases h
    exact E_ret rfl (pg_mt_md (by decide)) rfl hr
  · rw [if_neg c5] at h
    refine E_jf rfl rfl c5 ?_
    refine E_blk rfl ?_
    refine E_ps 1 (pc' := 13) (l' := [some (.ref x0), some (.int x1), some (.int x2)]) (st' := [.ref x0]) rfl ?_
    refine E_gi k0 (by decide) rfl ?_
    refine E_ps 1 (pc' := 17) (l' := [some (.ref x0), some (.int x1), some (.int x2)]) (st' := [.int (2 : Int32), .int (s.1 x0 8)]) rfl ?_
    by_cases c6 : (s.1 x0 8) = (2 : Int32)
    · rw [if_pos c6] at h
      refine E_jt rfl rfl c6 ?_
      refine E_blk rfl ?_
      refine E_ps 1 (pc' := 21) (l' := [some (.ref x0), some (.int x1), some (.int x2)]) (st' := [.ref x0]) rfl ?_
      obtain ⟨a7, e8, h⟩ := Option.bind_eq_some_iff.mp h
      refine E_gr k0 (by decide) rfl e8 ?_
      refine E_ps 5 (pc' := 29) (l' := [some (.ref x0), some (.int x1), some (.int x2)]) (st' := [.int (((4 : Int32) * x1) + x2), .ref a7]) rfl ?_
      obtain ⟨v9, e10, h⟩ := Option.bind_eq_some_iff.mp h
      refine E_al e10 ?_
      refine E_ps 1 (pc' := 31) (l' := [some (.ref x0), some (.int x1), some (.int x2)]) (st' := [.ref x0, .long v9]) rfl ?_
      refine E_gl k0 (by decide) rfl ?_
      refine E_ps 1 (pc' := 35) (l' := [some (.ref x0), some (.int x1), some (.int x2)]) (st' := [.int (lg_cmp v9 (s.2 x0 10))]) rfl ?_
      by_cases c11 : (lg_cmp v9 (s.2 x0 10)) = 0
      · rw [if_pos c11] at h
        refine E_jt rfl rfl c11 ?_
        obtain ⟨r, h, hr⟩ := lf_some (Dn := dn189_2 sc x0 x1 o) h hr
        refine E_blk rfl ?_
        refine E_ps 1 (pc' := 39) (l' := [some (.ref x0), some (.int x1), some (.int x2)]) (st' := [.int x2]) rfl ?_
        cases h
        exact E_ret rfl (pg_mt_md (by decide)) rfl hr
      · rw [if_neg c11] at h
        refine E_jf rfl rfl c11 ?_
        exact E_wk (l' := [some (.ref x0), some (.int x1), some (.int x2)]) ⟨rfl, rfl, rfl, trivial⟩ (s189_40 k0 h hr)
    · rw [if_neg c6] at h
      refine E_jf rfl rfl c6 ?_
      exact E_wk (l' := [some (.ref x0), some (.int x1), some (.int x2)]) ⟨rfl, rfl, rfl, trivial⟩ (s189_40 k0 h hr)
theorem s189_2_w {sc : Option (Nat × (Nat → Int32))} {x0 : Nat} {x1 : Int32} {x2 : Int32} {s : xS} {o : xH × Option Value} {r : (xS × Int32)} (k0 : oK x0 12 = true) (h : whl (fun q : (Int32 × xS) => f189_2 x0 x1 q.1 q.2) (x2, s) = some r) (hr : dn189 o r) : Ev sc 1 189 [] 2 [some (.ref x0), some (.int x1), some (.int x2)] [] (hk_of s) o := by
  refine whl_snd (E := fun q : (Int32 × xS) => Ev sc 1 189 [] 2 [some (.ref x0), some (.int x1), some (.int q.1)] [] (hk_of q.2) o) (P := fun r => dn189 o r) (fun q r h hr => ?_) h hr
  exact s189_2 k0 h (by cases r <;> exact hr)
noncomputable def f189 (x0 : Nat) (x1 : Int32) (s : xS) : Option (xS × Int32) := ifg (oK x0 12 = true) <| whl (fun q : (Int32 × xS) => f189_2 x0 x1 q.1 q.2) ((0 : Int32), s)
set_option maxRecDepth 20000 in
theorem s189 {sc : Option (Nat × (Nat → Int32))} {x0 : Nat} {x1 : Int32} {s : xS} {r : xS × Int32} (h : f189 x0 x1 s = some r) : Cl sc 1 189 [.ref x0, .int x1] (hk_of s) (hk_of r.1, some (.int r.2)) := by
  unfold f189 at h
  obtain ⟨k0, h⟩ := ifg_some h
  refine ⟨pg_md 189, [some (.ref x0), some (.int x1), none], pg_mt_md (by decide), (hk_rcv k0), rfl, ?_⟩
  generalize ho : ((hk_of r.1, some (Value.int r.2)) : xH × Option Value) = o
  have hr : dn189 o r := ho.symm
  refine E_blk rfl ?_
  refine E_ps 2 (pc' := 2) (l' := [some (.ref x0), some (.int x1), some (.int (0 : Int32))]) (st' := []) rfl ?_
  exact E_wk (l' := [some (.ref x0), some (.int x1), some (.int (0 : Int32))]) ⟨rfl, rfl, rfl, trivial⟩ (s189_2_w k0 h hr)

-- 190: ThreePlatesModel.readPlate()V
def dn190 (o : xH × Option Value) (r : xS × Unit) : Prop := o = (hk_of r.1, none)
def dn190_66 (sc : Option (Nat × (Nat → Int32))) (x0 : Nat) (x1 : Int32) (o : xH × Option Value) (r : ((Int32 × xS) ⊕ (xS × Unit))) : Prop := match r with
  | .inl q => Ev sc 4 190 [] 66 [some (.ref x0), some (.int x1), some (.int q.1)] [] (hk_of q.2) o
  | .inr r => dn190 o r
noncomputable def f190_66 (x0 : Nat) (x1 : Int32) (x2 : Int32) (s : xS) : Option ((Int32 × xS) ⊕ (xS × Unit)) := (hk_R x0 11).bind fun a1 => (aI s a1 (s.1 x0 26)).bind fun v3 => (hk_R x0 11).bind fun a5 => (aI s a5 (s.1 x0 26)).bind fun v7 => if (v3 * v7) ≤ x2 then (Option.map Sum.inr ((hk_R x0 12).bind fun a10 => (aI s a10 (s.1 x0 26)).bind fun v12 => (wI s a10 (s.1 x0 26) (v12 + (1 : Int32))).bind fun t14 => some (t14, ()))) else ((hk_R x0 15).bind fun a16 => (f185 x0 (-99 : Int32) (99 : Int32) s).bind fun z18 => (wI z18.1 a16 ((((100 : Int32) * (s.1 x0 26)) + ((25 : Int32) * x1)) + x2) z18.2).bind fun t20 => some (Sum.inl ((x2 + (1 : Int32)), t20)))
set_option maxRecDepth 20000 in
theorem s190_66 {sc : Option (Nat × (Nat → Int32))} {x0 : Nat} {x1 : Int32} {x2 : Int32} {s : xS} {o : xH × Option Value} {r : ((Int32 × xS) ⊕ (xS × Unit))} (k0 : oK x0 12 = true) (h : f190_66 x0 x1 x2 s = some r) (hr : dn190_66 sc x0 x1 o r) : Ev sc 4 190 [] 66 [some (.ref x0), some (.int x1), some (.int x2)] [] (hk_of s) o := by
  unfold f190_66 at h
  refine E_blk rfl ?_
  refine E_ps 2 (pc' := 68) (l' := [some (.ref x0), some (.int x1), some (.int x2)]) (st' := [.ref x0, .int x2]) rfl ?_
  obtain ⟨a1, e2, h⟩ := Option.bind_eq_some_iff.mp h
  refine E_gr k0 (by decide) rfl e2 ?_
  refine E_ps 1 (pc' := 72) (l' := [some (.ref x0), some (.int x1), some (.int x2)]) (st' := [.ref x0, .ref a1, .int x2]) rfl ?_
  refine E_gi k0 (by decide) rfl ?_
  obtain ⟨v3, e4, h⟩ := Option.bind_eq_some_iff.mp h
  refine E_ai e4 ?_
  refine E_ps 1 (pc' := 77) (l' := [some (.ref x0), some (.int x1), some (.int x2)]) (st' := [.ref x0, .int v3, .int x2]) rfl ?_
  obtain ⟨a5, e6, h⟩ := Option.bind_eq_some_iff.mp h
  refine E_gr k0 (by decide) rfl e6 ?_
  refine E_ps 1 (pc' := 81) (l' := [some (.ref x0), some (.int x1), some (.int x2)]) (st' := [.ref x0, .ref a5, .int v3, .int x2]) rfl ?_
  refine E_gi k0 (by decide) rfl ?_
  obtain ⟨v7, e8, h⟩ := Option.bind_eq_some_iff.mp h
  refine E_ai e8 ?_
  refine E_ps 1 (pc' := 86) (l' := [some (.ref x0), some (.int x1), some (.int x2)]) (st' := [.int (v3 * v7), .int x2]) rfl ?_
  by_cases c9 : (v3 * v7) ≤ x2
  · rw [if_pos c9] at h
    refine E_jt rfl rfl c9 ?_
    obtain ⟨r, h, hr⟩ := lf_some (Dn := dn190_66 sc x0 x1 o) h hr
    refine E_blk rfl ?_
    refine E_ps 1 (pc' := 123) (l' := [some (.ref x0), some (.int x1), some (.int x2)]) (st' := [.ref x0]) rfl ?_
    obtain ⟨a10, e11, h⟩ := Option.bind_eq_some_iff.mp h
    refine E_gr k0 (by decide) rfl e11 ?_
    refine E_ps 1 (pc' := 127) (l' := [some (.ref x0), some (.int x1), some (.int x2)]) (st' := [.ref x0, .ref a10]) rfl ?_
    refine E_gi k0 (by decide) rfl ?_
    refine E_ps 1 (pc' := 131) (l' := [some (.ref x0), some (.int x1), some (.int x2)]) (st' := [.int (s.1 x0 26), .ref a10, .int (s.1 x0 26), .ref a10]) rfl ?_
    obtain ⟨v12, e13, h⟩ := Option.bind_eq_some_iff.mp h
    refine E_ai e13 ?_
    refine E_ps 2 (pc' := 134) (l' := [some (.ref x0), some (.int x1), some (.int x2)]) (st' := [.int (v12 + (1 : Int32)), .int (s.1 x0 26), .ref a10]) rfl ?_
    obtain ⟨t14, e15, h⟩ := Option.bind_eq_some_iff.mp h
    refine E_wi e15 ?_
    cases h
    exact E_ret rfl (pg_mt_md (by decide)) rfl hr
  · rw [if_neg c9] at h
    refine E_jf rfl rfl c9 ?_
    refine E_blk rfl ?_
    refine E_ps 1 (pc' := 90) (l' := [some (.ref x0), some (.int x1), some (.int x2)]) (st' := [.ref x0]) rfl ?_
    obtain ⟨a16, e17, h⟩ := Option.bind_eq_some_iff.mp h
    refine E_gr k0 (by decide) rfl e17 ?_
    refine E_ps 2 (pc' := 96) (l' := [some (.ref x0), some (.int x1), some (.int x2)]) (st' := [.ref x0, .int (100 : Int32), .ref a16]) rfl ?_
    refine E_gi k0 (by decide) rfl ?_
    refine E_ps 10 (pc' := 112) (l' := [some (.ref x0), some (.int x1), some (.int x2)]) (st' := [.int (99 : Int32), .int (-99 : Int32), .ref x0, .int ((((100 : Int32) * (s.1 x0 26)) + ((25 : Int32) * x1)) + x2), .ref a16]) rfl ?_
    obtain ⟨z18, e19, h⟩ := Option.bind_eq_some_iff.mp h
    refine E_callI (vs := [.ref x0, .int (-99 : Int32), .int (99 : Int32)]) (rest := [.int ((((100 : Int32) * (s.1 x0 26)) + ((25 : Int32) * x1)) + x2), .ref a16]) rfl (by decide) rfl rfl (Nat.le_of_ble_eq_true rfl) (s185 e19) (by decide) ?_
    obtain ⟨t20, e21, h⟩ := Option.bind_eq_some_iff.mp h
    refine E_wi e21 ?_
    refine E_ps 1 (pc' := 119) (l' := [some (.ref x0), some (.int x1), some (.int (x2 + (1 : Int32)))]) (st' := []) rfl ?_
    refine E_j rfl rfl ?_
    cases h
    exact E_wk (l' := [some (.ref x0), some (.int x1), some (.int (x2 + (1 : Int32)))]) ⟨rfl, rfl, rfl, trivial⟩ hr
theorem s190_66_w {sc : Option (Nat × (Nat → Int32))} {x0 : Nat} {x1 : Int32} {x2 : Int32} {s : xS} {o : xH × Option Value} {r : (xS × Unit)} (k0 : oK x0 12 = true) (h : whl (fun q : (Int32 × xS) => f190_66 x0 x1 q.1 q.2) (x2, s) = some r) (hr : dn190 o r) : Ev sc 4 190 [] 66 [some (.ref x0), some (.int x1), some (.int x2)] [] (hk_of s) o := by
  refine whl_snd (E := fun q : (Int32 × xS) => Ev sc 4 190 [] 66 [some (.ref x0), some (.int x1), some (.int q.1)] [] (hk_of q.2) o) (P := fun r => dn190 o r) (fun q r h hr => ?_) h hr
  exact s190_66 k0 h (by cases r <;> exact hr)
noncomputable def f190_61 (x0 : Nat) (x1 : Int32) (y0 : Int32) (y1 : Nat) (s : xS) : Option (xS × Unit) := (f183 y1 y0 s).bind fun z1 => whl (fun q : (Int32 × xS) => f190_66 x0 x1 q.1 q.2) ((0 : Int32), z1.1)
set_option maxRecDepth 20000 in
theorem s190_61 {sc : Option (Nat × (Nat → Int32))} {x0 : Nat} {x1 : Int32} {y0 : Int32} {y1 : Nat} {s : xS} {o : xH × Option Value} {r : (xS × Unit)} (k0 : oK x0 12 = true) (ky1 : oK y1 12 = true) (h : f190_61 x0 x1 y0 y1 s = some r) (hr : dn190 o r) : Ev sc 4 190 [] 61 [some (.ref x0), some (.int x1), none] [.int y0, .ref y1] (hk_of s) o := by
  unfold f190_61 at h
  refine E_blk rfl ?_
  obtain ⟨z1, e2, h⟩ := Option.bind_eq_some_iff.mp h
  refine E_callV (vs := [.ref y1, .int y0]) (rest := []) rfl (by decide) rfl rfl (Nat.le_of_ble_eq_true rfl) (s183 e2) (by decide) ?_
  refine E_ps 2 (pc' := 66) (l' := [some (.ref x0), some (.int x1), some (.int (0 : Int32))]) (st' := []) rfl ?_
  exact E_wk (l' := [some (.ref x0), some (.int x1), some (.int (0 : Int32))]) ⟨rfl, rfl, rfl, trivial⟩ (s190_66_w k0 h hr)
noncomputable def f190_30 (x0 : Nat) (x1 : Int32) (s : xS) : Option (xS × Unit) := (hk_R x0 19).bind fun a1 => (wL s a1 (((4 : Int32) * (s.1 x0 26)) + x1) (s.2 x0 10)).bind fun t3 => if (t3.1 x0 8) = (2 : Int32) then (f190_61 x0 x1 (1 : Int32) x0 t3) else (f190_61 x0 x1 (0 : Int32) x0 t3)
set_option maxRecDepth 20000 in
theorem s190_30 {sc : Option (Nat × (Nat → Int32))} {x0 : Nat} {x1 : Int32} {s : xS} {o : xH × Option Value} {r : (xS × Unit)} (k0 : oK x0 12 = true) (h : f190_30 x0 x1 s = some r) (hr : dn190 o r) : Ev sc 4 190 [] 30 [some (.ref x0), some (.int x1), none] [] (hk_of s) o := by
  unfold f190_30 at h
  refine E_blk rfl ?_
  refine E_ps 1 (pc' := 31) (l' := [some (.ref x0), some (.int x1), none]) (st' := [.ref x0]) rfl ?_
  obtain ⟨a1, e2, h⟩ := Option.bind_eq_some_iff.mp h
  refine E_gr k0 (by decide) rfl e2 ?_
  refine E_ps 2 (pc' := 36) (l' := [some (.ref x0), some (.int x1), none]) (st' := [.ref x0, .int (4 : Int32), .ref a1]) rfl ?_
  refine E_gi k0 (by decide) rfl ?_
  refine E_ps 4 (pc' := 43) (l' := [some (.ref x0), some (.int x1), none]) (st' := [.ref x0, .int (((4 : Int32) * (s.1 x0 26)) + x1), .ref a1]) rfl ?_
  refine E_gl k0 (by decide) rfl ?_
  obtain ⟨t3, e4, h⟩ := Option.bind_eq_some_iff.mp h
  refine E_wl e4 ?_
  refine E_ps 2 (pc' := 49) (l' := [some (.ref x0), some (.int x1), none]) (st' := [.ref x0, .ref x0]) rfl ?_
  refine E_gi k0 (by decide) rfl ?_
  refine E_ps 1 (pc' := 53) (l' := [some (.ref x0), some (.int x1), none]) (st' := [.int (2 : Int32), .int (t3.1 x0 8), .ref x0]) rfl ?_
  by_cases c5 : (t3.1 x0 8) = (2 : Int32)
  · rw [if_pos c5] at h
    refine E_jt rfl rfl c5 ?_
    refine E_blk rfl ?_
    refine E_ps 1 (pc' := 57) (l' := [some (.ref x0), some (.int x1), none]) (st' := [.int (1 : Int32), .ref x0]) rfl ?_
    refine E_j rfl rfl ?_
    exact E_wk (l' := [some (.ref x0), some (.int x1), none]) ⟨rfl, rfl, trivial⟩ (s190_61 k0 k0 h hr)
  · rw [if_neg c5] at h
    refine E_jf rfl rfl c5 ?_
    refine E_blk rfl ?_
    refine E_ps 1 (pc' := 61) (l' := [some (.ref x0), some (.int x1), none]) (st' := [.int (0 : Int32), .ref x0]) rfl ?_
    exact E_wk (l' := [some (.ref x0), some (.int x1), none]) ⟨rfl, rfl, trivial⟩ (s190_61 k0 k0 h hr)
noncomputable def f190 (x0 : Nat) (s : xS) : Option (xS × Unit) := ifg (oK x0 12 = true) <| (hk_R x0 12).bind fun a1 => (aI s a1 (s.1 x0 26)).bind fun v3 => (f189 x0 (s.1 x0 26) s).bind fun z5 => if z5.2 < 0 then (f190_30 x0 v3 z5.1) else ((f176 x0 (3 : Int32) (z5.1.1 x0 6) z5.1).bind fun z8 => f190_30 x0 v3 z8.1)
set_option maxRecDepth 20000 in
theorem s190 {sc : Option (Nat × (Nat → Int32))} {x0 : Nat} {s : xS} {r : xS × Unit} (h : f190 x0 s = some r) : Cl sc 4 190 [.ref x0] (hk_of s) (hk_of r.1, none) := by
  unfold f190 at h
  obtain ⟨k0, h⟩ := ifg_some h
  refine ⟨pg_md 190, [some (.ref x0), none, none], pg_mt_md (by decide), (hk_rcv k0), rfl, ?_⟩
  generalize ho : ((hk_of r.1, none) : xH × Option Value) = o
  have hr : dn190 o r := ho.symm
  refine E_blk rfl ?_
  refine E_ps 1 (pc' := 1) (l' := [some (.ref x0), none, none]) (st' := [.ref x0]) rfl ?_
  obtain ⟨a1, e2, h⟩ := Option.bind_eq_some_iff.mp h
  refine E_gr k0 (by decide) rfl e2 ?_
  refine E_ps 1 (pc' := 5) (l' := [some (.ref x0), none, none]) (st' := [.ref x0, .ref a1]) rfl ?_
  refine E_gi k0 (by decide) rfl ?_
  obtain ⟨v3, e4, h⟩ := Option.bind_eq_some_iff.mp h
  refine E_ai e4 ?_
  refine E_ps 3 (pc' := 12) (l' := [some (.ref x0), some (.int v3), none]) (st' := [.ref x0, .ref x0]) rfl ?_
  refine E_gi k0 (by decide) rfl ?_
  obtain ⟨z5, e6, h⟩ := Option.bind_eq_some_iff.mp h
  refine E_callI (vs := [.ref x0, .int (s.1 x0 26)]) (rest := []) rfl (by decide) rfl rfl (Nat.le_of_ble_eq_true rfl) (s189 e6) (by decide) ?_
  by_cases c7 : z5.2 < 0
  · rw [if_pos c7] at h
    refine E_jt rfl rfl c7 ?_
    exact E_wk (l' := [some (.ref x0), some (.int v3), none]) ⟨rfl, rfl, trivial⟩ (s190_30 k0 h hr)
  · rw [if_neg c7] at h
    refine E_jf rfl rfl c7 ?_
    refine E_blk rfl ?_
    refine E_ps 3 (pc' := 24) (l' := [some (.ref x0), some (.int v3), none]) (st' := [.ref x0, .int (3 : Int32), .ref x0]) rfl ?_
    refine E_gi k0 (by decide) rfl ?_
    obtain ⟨z8, e9, h⟩ := Option.bind_eq_some_iff.mp h
    refine E_callV (vs := [.ref x0, .int (3 : Int32), .int (z5.1.1 x0 6)]) (rest := []) rfl (by decide) rfl rfl (Nat.le_of_ble_eq_true rfl) (s176 e9) (by decide) ?_
    exact E_wk (l' := [some (.ref x0), some (.int v3), none]) ⟨rfl, rfl, trivial⟩ (s190_30 k0 h hr)

-- 188: ThreePlatesModel.readLine()V
def dn188 (o : xH × Option Value) (r : xS × Unit) : Prop := o = (hk_of r.1, none)
noncomputable def f188_314 (x0 : Nat) (y0 : Int32) (y1 : Int32) (y2 : Nat) (s : xS) : Option (xS × Unit) := (wB s y2 y1 y0).bind fun t1 => (f180 x0 (59 : Int32) t1).bind fun z3 => (f183 x0 z3.2 z3.1).bind fun z5 => some (z5.1, ())
set_option maxRecDepth 20000 in
theorem s188_314 {sc : Option (Nat × (Nat → Int32))} {x0 : Nat} {y0 : Int32} {y1 : Int32} {y2 : Nat} {s : xS} {o : xH × Option Value} {r : (xS × Unit)} (k0 : oK x0 12 = true) (h : f188_314 x0 y0 y1 y2 s = some r) (hr : dn188 o r) : Ev sc 5 188 [] 314 [some (.ref x0), none, none, none, none, none] [.int y0, .int y1, .ref y2] (hk_of s) o := by
  unfold f188_314 at h
  refine E_blk rfl ?_
  obtain ⟨t1, e2, h⟩ := Option.bind_eq_some_iff.mp h
  refine E_wb e2 ?_
  refine E_ps 3 (pc' := 319) (l' := [some (.ref x0), none, none, none, none, none]) (st' := [.int (59 : Int32), .ref x0, .ref x0]) rfl ?_
  obtain ⟨z3, e4, h⟩ := Option.bind_eq_some_iff.mp h
  refine E_callI (vs := [.ref x0, .int (59 : Int32)]) (rest := [.ref x0]) rfl (by decide) rfl rfl (Nat.le_of_ble_eq_true rfl) (s180 e4) (by decide) ?_
  obtain ⟨z5, e6, h⟩ := Option.bind_eq_some_iff.mp h
  refine E_callV (vs := [.ref x0, .int z3.2]) (rest := []) rfl (by decide) rfl rfl (Nat.le_of_ble_eq_true rfl) (s183 e6) (by decide) ?_
  cases h
  exact E_ret rfl (pg_mt_md (by decide)) rfl hr
noncomputable def f188_309 (x0 : Nat) (y0 : Int32) (y1 : Nat) (s : xS) : Option (xS × Unit) := f188_314 x0 (1 : Int32) y0 y1 s
set_option maxRecDepth 20000 in
theorem s188_309 {sc : Option (Nat × (Nat → Int32))} {x0 : Nat} {y0 : Int32} {y1 : Nat} {s : xS} {o : xH × Option Value} {r : (xS × Unit)} (k0 : oK x0 12 = true) (h : f188_309 x0 y0 y1 s = some r) (hr : dn188 o r) : Ev sc 5 188 [] 309 [some (.ref x0), none, none, none, none, none] [.int y0, .ref y1] (hk_of s) o := by
  unfold f188_309 at h
  refine E_blk rfl ?_
  refine E_ps 1 (pc' := 310) (l' := [some (.ref x0), none, none, none, none, none]) (st' := [.int (1 : Int32), .int y0, .ref y1]) rfl ?_
  refine E_j rfl rfl ?_
  exact E_wk (l' := [some (.ref x0), none, none, none, none, none]) ⟨rfl, trivial⟩ (s188_314 k0 h hr)
noncomputable def f188_283 (x0 : Nat) (x4 : Int32) (y0 : Int32) (y1 : Int32) (y2 : Nat) (s : xS) : Option (xS × Unit) := (wB s y2 y1 y0).bind fun t1 => (hk_R x0 18).bind fun a3 => (hk_R x0 18).bind fun a5 => (aB t1 a5 (t1.1 x0 26)).bind fun v7 => if v7 = 0 then (if x4 = 0 then (f188_314 x0 (0 : Int32) (t1.1 x0 26) a3 t1) else (f188_309 x0 (t1.1 x0 26) a3 t1)) else (f188_309 x0 (t1.1 x0 26) a3 t1)
set_option maxRecDepth 20000 in
theorem s188_283 {sc : Option (Nat × (Nat → Int32))} {x0 : Nat} {x4 : Int32} {y0 : Int32} {y1 : Int32} {y2 : Nat} {s : xS} {o : xH × Option Value} {r : (xS × Unit)} (k0 : oK x0 12 = true) (h : f188_283 x0 x4 y0 y1 y2 s = some r) (hr : dn188 o r) : Ev sc 5 188 [] 283 [some (.ref x0), none, none, none, some (.int x4), none] [.int y0, .int y1, .ref y2] (hk_of s) o := by
  unfold f188_283 at h
  refine E_blk rfl ?_
  obtain ⟨t1, e2, h⟩ := Option.bind_eq_some_iff.mp h
  refine E_wb e2 ?_
  refine E_ps 1 (pc' := 285) (l' := [some (.ref x0), none, none, none, some (.int x4), none]) (st' := [.ref x0]) rfl ?_
  obtain ⟨a3, e4, h⟩ := Option.bind_eq_some_iff.mp h
  refine E_gr k0 (by decide) rfl e4 ?_
  refine E_ps 1 (pc' := 289) (l' := [some (.ref x0), none, none, none, some (.int x4), none]) (st' := [.ref x0, .ref a3]) rfl ?_
  refine E_gi k0 (by decide) rfl ?_
  refine E_ps 1 (pc' := 293) (l' := [some (.ref x0), none, none, none, some (.int x4), none]) (st' := [.ref x0, .int (t1.1 x0 26), .ref a3]) rfl ?_
  obtain ⟨a5, e6, h⟩ := Option.bind_eq_some_iff.mp h
  refine E_gr k0 (by decide) rfl e6 ?_
  refine E_ps 1 (pc' := 297) (l' := [some (.ref x0), none, none, none, some (.int x4), none]) (st' := [.ref x0, .ref a5, .int (t1.1 x0 26), .ref a3]) rfl ?_
  refine E_gi k0 (by decide) rfl ?_
  obtain ⟨v7, e8, h⟩ := Option.bind_eq_some_iff.mp h
  refine E_ab e8 ?_
  by_cases c9 : v7 = 0
  · rw [if_pos c9] at h
    refine E_jt rfl rfl c9 ?_
    refine E_blk rfl ?_
    refine E_ps 1 (pc' := 306) (l' := [some (.ref x0), none, none, none, some (.int x4), none]) (st' := [.int x4, .int (t1.1 x0 26), .ref a3]) rfl ?_
    by_cases c10 : x4 = 0
    · rw [if_pos c10] at h
      refine E_jt rfl rfl c10 ?_
      refine E_blk rfl ?_
      refine E_ps 1 (pc' := 314) (l' := [some (.ref x0), none, none, none, some (.int x4), none]) (st' := [.int (0 : Int32), .int (t1.1 x0 26), .ref a3]) rfl ?_
      exact E_wk (l' := [some (.ref x0), none, none, none, none, none]) ⟨rfl, trivial⟩ (s188_314 k0 h hr)
    · rw [if_neg c10] at h
      refine E_jf rfl rfl c10 ?_
      exact E_wk (l' := [some (.ref x0), none, none, none, none, none]) ⟨rfl, trivial⟩ (s188_309 k0 h hr)
  · rw [if_neg c9] at h
    refine E_jf rfl rfl c9 ?_
    exact E_wk (l' := [some (.ref x0), none, none, none, none, none]) ⟨rfl, trivial⟩ (s188_309 k0 h hr)
noncomputable def f188_278 (x0 : Nat) (x4 : Int32) (y0 : Int32) (y1 : Nat) (s : xS) : Option (xS × Unit) := f188_283 x0 x4 (1 : Int32) y0 y1 s
set_option maxRecDepth 20000 in
theorem s188_278 {sc : Option (Nat × (Nat → Int32))} {x0 : Nat} {x4 : Int32} {y0 : Int32} {y1 : Nat} {s : xS} {o : xH × Option Value} {r : (xS × Unit)} (k0 : oK x0 12 = true) (h : f188_278 x0 x4 y0 y1 s = some r) (hr : dn188 o r) : Ev sc 5 188 [] 278 [some (.ref x0), none, none, none, some (.int x4), none] [.int y0, .ref y1] (hk_of s) o := by
  unfold f188_278 at h
  refine E_blk rfl ?_
  refine E_ps 1 (pc' := 279) (l' := [some (.ref x0), none, none, none, some (.int x4), none]) (st' := [.int (1 : Int32), .int y0, .ref y1]) rfl ?_
  refine E_j rfl rfl ?_
  exact E_wk (l' := [some (.ref x0), none, none, none, some (.int x4), none]) ⟨rfl, rfl, trivial⟩ (s188_283 k0 h hr)
noncomputable def f188_253 (x0 : Nat) (x3 : Int32) (x4 : Int32) (y0 : Int32) (y1 : Int32) (y2 : Nat) (s : xS) : Option (xS × Unit) := (wB s y2 y1 y0).bind fun t1 => (hk_R x0 17).bind fun a3 => (hk_R x0 17).bind fun a5 => (aB t1 a5 (t1.1 x0 26)).bind fun v7 => if v7 = 0 then (if x3 = 0 then (f188_283 x0 x4 (0 : Int32) (t1.1 x0 26) a3 t1) else (f188_278 x0 x4 (t1.1 x0 26) a3 t1)) else (f188_278 x0 x4 (t1.1 x0 26) a3 t1)
set_option maxRecDepth 20000 in
theorem s188_253 {sc : Option (Nat × (Nat → Int32))} {x0 : Nat} {x3 : Int32} {x4 : Int32} {y0 : Int32} {y1 : Int32} {y2 : Nat} {s : xS} {o : xH × Option Value} {r : (xS × Unit)} (k0 : oK x0 12 = true) (h : f188_253 x0 x3 x4 y0 y1 y2 s = some r) (hr : dn188 o r) : Ev sc 5 188 [] 253 [some (.ref x0), none, none, some (.int x3), some (.int x4), none] [.int y0, .int y1, .ref y2] (hk_of s) o := by
  unfold f188_253 at h
  refine E_blk rfl ?_
  obtain ⟨t1, e2, h⟩ := Option.bind_eq_some_iff.mp h
  refine E_wb e2 ?_
  refine E_ps 1 (pc' := 255) (l' := [some (.ref x0), none, none, some (.int x3), some (.int x4), none]) (st' := [.ref x0]) rfl ?_
  obtain ⟨a3, e4, h⟩ := Option.bind_eq_some_iff.mp h
  refine E_gr k0 (by decide) rfl e4 ?_
  refine E_ps 1 (pc' := 259) (l' := [some (.ref x0), none, none, some (.int x3), some (.int x4), none]) (st' := [.ref x0, .ref a3]) rfl ?_
  refine E_gi k0 (by decide) rfl ?_
  refine E_ps 1 (pc' := 263) (l' := [some (.ref x0), none, none, some (.int x3), some (.int x4), none]) (st' := [.ref x0, .int (t1.1 x0 26), .ref a3]) rfl ?_
  obtain ⟨a5, e6, h⟩ := Option.bind_eq_some_iff.mp h
  refine E_gr k0 (by decide) rfl e6 ?_
  refine E_ps 1 (pc' := 267) (l' := [some (.ref x0), none, none, some (.int x3), some (.int x4), none]) (st' := [.ref x0, .ref a5, .int (t1.1 x0 26), .ref a3]) rfl ?_
  refine E_gi k0 (by decide) rfl ?_
  obtain ⟨v7, e8, h⟩ := Option.bind_eq_some_iff.mp h
  refine E_ab e8 ?_
  by_cases c9 : v7 = 0
  · rw [if_pos c9] at h
    refine E_jt rfl rfl c9 ?_
    refine E_blk rfl ?_
    refine E_ps 1 (pc' := 275) (l' := [some (.ref x0), none, none, some (.int x3), some (.int x4), none]) (st' := [.int x3, .int (t1.1 x0 26), .ref a3]) rfl ?_
    by_cases c10 : x3 = 0
    · rw [if_pos c10] at h
      refine E_jt rfl rfl c10 ?_
      refine E_blk rfl ?_
      refine E_ps 1 (pc' := 283) (l' := [some (.ref x0), none, none, some (.int x3), some (.int x4), none]) (st' := [.int (0 : Int32), .int (t1.1 x0 26), .ref a3]) rfl ?_
      exact E_wk (l' := [some (.ref x0), none, none, none, some (.int x4), none]) ⟨rfl, rfl, trivial⟩ (s188_283 k0 h hr)
    · rw [if_neg c10] at h
      refine E_jf rfl rfl c10 ?_
      exact E_wk (l' := [some (.ref x0), none, none, none, some (.int x4), none]) ⟨rfl, rfl, trivial⟩ (s188_278 k0 h hr)
  · rw [if_neg c9] at h
    refine E_jf rfl rfl c9 ?_
    exact E_wk (l' := [some (.ref x0), none, none, none, some (.int x4), none]) ⟨rfl, rfl, trivial⟩ (s188_278 k0 h hr)
noncomputable def f188_248 (x0 : Nat) (x3 : Int32) (x4 : Int32) (y0 : Int32) (y1 : Nat) (s : xS) : Option (xS × Unit) := f188_253 x0 x3 x4 (1 : Int32) y0 y1 s
set_option maxRecDepth 20000 in
theorem s188_248 {sc : Option (Nat × (Nat → Int32))} {x0 : Nat} {x3 : Int32} {x4 : Int32} {y0 : Int32} {y1 : Nat} {s : xS} {o : xH × Option Value} {r : (xS × Unit)} (k0 : oK x0 12 = true) (h : f188_248 x0 x3 x4 y0 y1 s = some r) (hr : dn188 o r) : Ev sc 5 188 [] 248 [some (.ref x0), none, none, some (.int x3), some (.int x4), none] [.int y0, .ref y1] (hk_of s) o := by
  unfold f188_248 at h
  refine E_blk rfl ?_
  refine E_ps 1 (pc' := 249) (l' := [some (.ref x0), none, none, some (.int x3), some (.int x4), none]) (st' := [.int (1 : Int32), .int y0, .ref y1]) rfl ?_
  refine E_j rfl rfl ?_
  exact E_wk (l' := [some (.ref x0), none, none, some (.int x3), some (.int x4), none]) ⟨rfl, rfl, rfl, trivial⟩ (s188_253 k0 h hr)
noncomputable def f188_224 (x0 : Nat) (x1 : Int32) (x3 : Int32) (x4 : Int32) (s : xS) : Option (xS × Unit) := (hk_R x0 16).bind fun a1 => (hk_R x0 16).bind fun a3 => (aB s a3 (s.1 x0 26)).bind fun v5 => if v5 = 0 then (if x1 = 0 then (f188_253 x0 x3 x4 (0 : Int32) (s.1 x0 26) a1 s) else (f188_248 x0 x3 x4 (s.1 x0 26) a1 s)) else (f188_248 x0 x3 x4 (s.1 x0 26) a1 s)
set_option maxRecDepth 20000 in
theorem s188_224 {sc : Option (Nat × (Nat → Int32))} {x0 : Nat} {x1 : Int32} {x3 : Int32} {x4 : Int32} {s : xS} {o : xH × Option Value} {r : (xS × Unit)} (k0 : oK x0 12 = true) (h : f188_224 x0 x1 x3 x4 s = some r) (hr : dn188 o r) : Ev sc 5 188 [] 224 [some (.ref x0), some (.int x1), none, some (.int x3), some (.int x4), none] [] (hk_of s) o := by
  unfold f188_224 at h
  refine E_blk rfl ?_
  refine E_ps 1 (pc' := 225) (l' := [some (.ref x0), some (.int x1), none, some (.int x3), some (.int x4), none]) (st' := [.ref x0]) rfl ?_
  obtain ⟨a1, e2, h⟩ := Option.bind_eq_some_iff.mp h
  refine E_gr k0 (by decide) rfl e2 ?_
  refine E_ps 1 (pc' := 229) (l' := [some (.ref x0), some (.int x1), none, some (.int x3), some (.int x4), none]) (st' := [.ref x0, .ref a1]) rfl ?_
  refine E_gi k0 (by decide) rfl ?_
  refine E_ps 1 (pc' := 233) (l' := [some (.ref x0), some (.int x1), none, some (.int x3), some (.int x4), none]) (st' := [.ref x0, .int (s.1 x0 26), .ref a1]) rfl ?_
  obtain ⟨a3, e4, h⟩ := Option.bind_eq_some_iff.mp h
  refine E_gr k0 (by decide) rfl e4 ?_
  refine E_ps 1 (pc' := 237) (l' := [some (.ref x0), some (.int x1), none, some (.int x3), some (.int x4), none]) (st' := [.ref x0, .ref a3, .int (s.1 x0 26), .ref a1]) rfl ?_
  refine E_gi k0 (by decide) rfl ?_
  obtain ⟨v5, e6, h⟩ := Option.bind_eq_some_iff.mp h
  refine E_ab e6 ?_
  by_cases c7 : v5 = 0
  · rw [if_pos c7] at h
    refine E_jt rfl rfl c7 ?_
    refine E_blk rfl ?_
    refine E_ps 1 (pc' := 245) (l' := [some (.ref x0), some (.int x1), none, some (.int x3), some (.int x4), none]) (st' := [.int x1, .int (s.1 x0 26), .ref a1]) rfl ?_
    by_cases c8 : x1 = 0
    · rw [if_pos c8] at h
      refine E_jt rfl rfl c8 ?_
      refine E_blk rfl ?_
      refine E_ps 1 (pc' := 253) (l' := [some (.ref x0), some (.int x1), none, some (.int x3), some (.int x4), none]) (st' := [.int (0 : Int32), .int (s.1 x0 26), .ref a1]) rfl ?_
      exact E_wk (l' := [some (.ref x0), none, none, some (.int x3), some (.int x4), none]) ⟨rfl, rfl, rfl, trivial⟩ (s188_253 k0 h hr)
    · rw [if_neg c8] at h
      refine E_jf rfl rfl c8 ?_
      exact E_wk (l' := [some (.ref x0), none, none, some (.int x3), some (.int x4), none]) ⟨rfl, rfl, rfl, trivial⟩ (s188_248 k0 h hr)
  · rw [if_neg c7] at h
    refine E_jf rfl rfl c7 ?_
    exact E_wk (l' := [some (.ref x0), none, none, some (.int x3), some (.int x4), none]) ⟨rfl, rfl, rfl, trivial⟩ (s188_248 k0 h hr)
noncomputable def f188_203 (x0 : Nat) (x1 : Int32) (x3 : Int32) (x4 : Int32) (s : xS) : Option (xS × Unit) := if x4 = 0 then (f188_224 x0 x1 x3 x4 s) else ((hk_R x0 14).bind fun a2 => (f184 x0 (0 : Int32) (8 : Int32) s).bind fun z4 => (wI z4.1 a2 (s.1 x0 26) z4.2).bind fun t6 => f188_224 x0 x1 x3 x4 t6)
set_option maxRecDepth 20000 in
theorem s188_203 {sc : Option (Nat × (Nat → Int32))} {x0 : Nat} {x1 : Int32} {x3 : Int32} {x4 : Int32} {s : xS} {o : xH × Option Value} {r : (xS × Unit)} (k0 : oK x0 12 = true) (h : f188_203 x0 x1 x3 x4 s = some r) (hr : dn188 o r) : Ev sc 5 188 [] 203 [some (.ref x0), some (.int x1), none, some (.int x3), some (.int x4), none] [] (hk_of s) o := by
  unfold f188_203 at h
  refine E_blk rfl ?_
  refine E_ps 1 (pc' := 205) (l' := [some (.ref x0), some (.int x1), none, some (.int x3), some (.int x4), none]) (st' := [.int x4]) rfl ?_
  by_cases c1 : x4 = 0
  · rw [if_pos c1] at h
    refine E_jt rfl rfl c1 ?_
    exact E_wk (l' := [some (.ref x0), some (.int x1), none, some (.int x3), some (.int x4), none]) ⟨rfl, rfl, rfl, rfl, trivial⟩ (s188_224 k0 h hr)
  · rw [if_neg c1] at h
    refine E_jf rfl rfl c1 ?_
    refine E_blk rfl ?_
    refine E_ps 1 (pc' := 209) (l' := [some (.ref x0), some (.int x1), none, some (.int x3), some (.int x4), none]) (st' := [.ref x0]) rfl ?_
    obtain ⟨a2, e3, h⟩ := Option.bind_eq_some_iff.mp h
    refine E_gr k0 (by decide) rfl e3 ?_
    refine E_ps 1 (pc' := 213) (l' := [some (.ref x0), some (.int x1), none, some (.int x3), some (.int x4), none]) (st' := [.ref x0, .ref a2]) rfl ?_
    refine E_gi k0 (by decide) rfl ?_
    refine E_ps 3 (pc' := 220) (l' := [some (.ref x0), some (.int x1), none, some (.int x3), some (.int x4), none]) (st' := [.int (8 : Int32), .int (0 : Int32), .ref x0, .int (s.1 x0 26), .ref a2]) rfl ?_
    obtain ⟨z4, e5, h⟩ := Option.bind_eq_some_iff.mp h
    refine E_callI (vs := [.ref x0, .int (0 : Int32), .int (8 : Int32)]) (rest := [.int (s.1 x0 26), .ref a2]) rfl (by decide) rfl rfl (Nat.le_of_ble_eq_true rfl) (s184 e5) (by decide) ?_
    obtain ⟨t6, e7, h⟩ := Option.bind_eq_some_iff.mp h
    refine E_wi e7 ?_
    exact E_wk (l' := [some (.ref x0), some (.int x1), none, some (.int x3), some (.int x4), none]) ⟨rfl, rfl, rfl, rfl, trivial⟩ (s188_224 k0 h hr)
noncomputable def f188_183 (x0 : Nat) (x1 : Int32) (x3 : Int32) (x4 : Int32) (s : xS) : Option (xS × Unit) := if x3 = 0 then (f188_203 x0 x1 x3 x4 s) else ((hk_R x0 13).bind fun a2 => (f184 x0 (0 : Int32) (20 : Int32) s).bind fun z4 => (wI z4.1 a2 (s.1 x0 26) z4.2).bind fun t6 => f188_203 x0 x1 x3 x4 t6)
set_option maxRecDepth 20000 in
theorem s188_183 {sc : Option (Nat × (Nat → Int32))} {x0 : Nat} {x1 : Int32} {x3 : Int32} {x4 : Int32} {s : xS} {o : xH × Option Value} {r : (xS × Unit)} (k0 : oK x0 12 = true) (h : f188_183 x0 x1 x3 x4 s = some r) (hr : dn188 o r) : Ev sc 5 188 [] 183 [some (.ref x0), some (.int x1), none, some (.int x3), some (.int x4), none] [] (hk_of s) o := by
  unfold f188_183 at h
  refine E_blk rfl ?_
  refine E_ps 1 (pc' := 184) (l' := [some (.ref x0), some (.int x1), none, some (.int x3), some (.int x4), none]) (st' := [.int x3]) rfl ?_
  by_cases c1 : x3 = 0
  · rw [if_pos c1] at h
    refine E_jt rfl rfl c1 ?_
    exact E_wk (l' := [some (.ref x0), some (.int x1), none, some (.int x3), some (.int x4), none]) ⟨rfl, rfl, rfl, rfl, trivial⟩ (s188_203 k0 h hr)
  · rw [if_neg c1] at h
    refine E_jf rfl rfl c1 ?_
    refine E_blk rfl ?_
    refine E_ps 1 (pc' := 188) (l' := [some (.ref x0), some (.int x1), none, some (.int x3), some (.int x4), none]) (st' := [.ref x0]) rfl ?_
    obtain ⟨a2, e3, h⟩ := Option.bind_eq_some_iff.mp h
    refine E_gr k0 (by decide) rfl e3 ?_
    refine E_ps 1 (pc' := 192) (l' := [some (.ref x0), some (.int x1), none, some (.int x3), some (.int x4), none]) (st' := [.ref x0, .ref a2]) rfl ?_
    refine E_gi k0 (by decide) rfl ?_
    refine E_ps 3 (pc' := 199) (l' := [some (.ref x0), some (.int x1), none, some (.int x3), some (.int x4), none]) (st' := [.int (20 : Int32), .int (0 : Int32), .ref x0, .int (s.1 x0 26), .ref a2]) rfl ?_
    obtain ⟨z4, e5, h⟩ := Option.bind_eq_some_iff.mp h
    refine E_callI (vs := [.ref x0, .int (0 : Int32), .int (20 : Int32)]) (rest := [.int (s.1 x0 26), .ref a2]) rfl (by decide) rfl rfl (Nat.le_of_ble_eq_true rfl) (s184 e5) (by decide) ?_
    obtain ⟨t6, e7, h⟩ := Option.bind_eq_some_iff.mp h
    refine E_wi e7 ?_
    exact E_wk (l' := [some (.ref x0), some (.int x1), none, some (.int x3), some (.int x4), none]) ⟨rfl, rfl, rfl, rfl, trivial⟩ (s188_203 k0 h hr)
noncomputable def f188_164 (x0 : Nat) (x1 : Int32) (x3 : Int32) (x4 : Int32) (s : xS) : Option (xS × Unit) := if x1 = 0 then (f188_183 x0 x1 x3 x4 s) else ((hk_R x0 11).bind fun a2 => (f184 x0 (3 : Int32) (5 : Int32) s).bind fun z4 => (wI z4.1 a2 (s.1 x0 26) z4.2).bind fun t6 => f188_183 x0 x1 x3 x4 t6)
set_option maxRecDepth 20000 in
theorem s188_164 {sc : Option (Nat × (Nat → Int32))} {x0 : Nat} {x1 : Int32} {x3 : Int32} {x4 : Int32} {s : xS} {o : xH × Option Value} {r : (xS × Unit)} (k0 : oK x0 12 = true) (h : f188_164 x0 x1 x3 x4 s = some r) (hr : dn188 o r) : Ev sc 5 188 [] 164 [some (.ref x0), some (.int x1), none, some (.int x3), some (.int x4), none] [] (hk_of s) o := by
  unfold f188_164 at h
  refine E_blk rfl ?_
  refine E_ps 1 (pc' := 165) (l' := [some (.ref x0), some (.int x1), none, some (.int x3), some (.int x4), none]) (st' := [.int x1]) rfl ?_
  by_cases c1 : x1 = 0
  · rw [if_pos c1] at h
    refine E_jt rfl rfl c1 ?_
    exact E_wk (l' := [some (.ref x0), some (.int x1), none, some (.int x3), some (.int x4), none]) ⟨rfl, rfl, rfl, rfl, trivial⟩ (s188_183 k0 h hr)
  · rw [if_neg c1] at h
    refine E_jf rfl rfl c1 ?_
    refine E_blk rfl ?_
    refine E_ps 1 (pc' := 169) (l' := [some (.ref x0), some (.int x1), none, some (.int x3), some (.int x4), none]) (st' := [.ref x0]) rfl ?_
    obtain ⟨a2, e3, h⟩ := Option.bind_eq_some_iff.mp h
    refine E_gr k0 (by decide) rfl e3 ?_
    refine E_ps 1 (pc' := 173) (l' := [some (.ref x0), some (.int x1), none, some (.int x3), some (.int x4), none]) (st' := [.ref x0, .ref a2]) rfl ?_
    refine E_gi k0 (by decide) rfl ?_
    refine E_ps 3 (pc' := 179) (l' := [some (.ref x0), some (.int x1), none, some (.int x3), some (.int x4), none]) (st' := [.int (5 : Int32), .int (3 : Int32), .ref x0, .int (s.1 x0 26), .ref a2]) rfl ?_
    obtain ⟨z4, e5, h⟩ := Option.bind_eq_some_iff.mp h
    refine E_callI (vs := [.ref x0, .int (3 : Int32), .int (5 : Int32)]) (rest := [.int (s.1 x0 26), .ref a2]) rfl (by decide) rfl rfl (Nat.le_of_ble_eq_true rfl) (s184 e5) (by decide) ?_
    obtain ⟨t6, e7, h⟩ := Option.bind_eq_some_iff.mp h
    refine E_wi e7 ?_
    exact E_wk (l' := [some (.ref x0), some (.int x1), none, some (.int x3), some (.int x4), none]) ⟨rfl, rfl, rfl, rfl, trivial⟩ (s188_183 k0 h hr)
noncomputable def f188_144 (x0 : Nat) (x1 : Int32) (x2 : Int32) (x3 : Int32) (x4 : Int32) (s : xS) : Option (xS × Unit) := (f177 x0 s).bind fun z1 => if z1.2 = 0 then (some (z1.1, ())) else ((f179 x0 z1.1).bind fun z4 => if x2 = 0 then (f188_164 x0 x1 x3 x4 z4.1) else ((f190 x0 z4.1).bind fun z7 => f188_164 x0 x1 x3 x4 z7.1))
set_option maxRecDepth 20000 in
theorem s188_144 {sc : Option (Nat × (Nat → Int32))} {x0 : Nat} {x1 : Int32} {x2 : Int32} {x3 : Int32} {x4 : Int32} {s : xS} {o : xH × Option Value} {r : (xS × Unit)} (k0 : oK x0 12 = true) (h : f188_144 x0 x1 x2 x3 x4 s = some r) (hr : dn188 o r) : Ev sc 5 188 [] 144 [some (.ref x0), some (.int x1), some (.int x2), some (.int x3), some (.int x4), none] [] (hk_of s) o := by
  unfold f188_144 at h
  refine E_blk rfl ?_
  refine E_ps 1 (pc' := 145) (l' := [some (.ref x0), some (.int x1), some (.int x2), some (.int x3), some (.int x4), none]) (st' := [.ref x0]) rfl ?_
  obtain ⟨z1, e2, h⟩ := Option.bind_eq_some_iff.mp h
  refine E_callI (vs := [.ref x0]) (rest := []) rfl (by decide) rfl rfl (Nat.le_of_ble_eq_true rfl) (s177 e2) (by decide) ?_
  by_cases c3 : z1.2 = 0
  · rw [if_pos c3] at h
    refine E_jt rfl rfl c3 ?_
    refine E_blk rfl ?_
    cases h
    exact E_ret rfl (pg_mt_md (by decide)) rfl hr
  · rw [if_neg c3] at h
    refine E_jf rfl rfl c3 ?_
    refine E_blk rfl ?_
    refine E_ps 1 (pc' := 153) (l' := [some (.ref x0), some (.int x1), some (.int x2), some (.int x3), some (.int x4), none]) (st' := [.ref x0]) rfl ?_
    obtain ⟨z4, e5, h⟩ := Option.bind_eq_some_iff.mp h
    refine E_callV (vs := [.ref x0]) (rest := []) rfl (by decide) rfl rfl (Nat.le_of_ble_eq_true rfl) (s179 e5) (by decide) ?_
    refine E_ps 1 (pc' := 157) (l' := [some (.ref x0), some (.int x1), some (.int x2), some (.int x3), some (.int x4), none]) (st' := [.int x2]) rfl ?_
    by_cases c6 : x2 = 0
    · rw [if_pos c6] at h
      refine E_jt rfl rfl c6 ?_
      exact E_wk (l' := [some (.ref x0), some (.int x1), none, some (.int x3), some (.int x4), none]) ⟨rfl, rfl, rfl, rfl, trivial⟩ (s188_164 k0 h hr)
    · rw [if_neg c6] at h
      refine E_jf rfl rfl c6 ?_
      refine E_blk rfl ?_
      refine E_ps 1 (pc' := 161) (l' := [some (.ref x0), some (.int x1), some (.int x2), some (.int x3), some (.int x4), none]) (st' := [.ref x0]) rfl ?_
      obtain ⟨z7, e8, h⟩ := Option.bind_eq_some_iff.mp h
      refine E_callV (vs := [.ref x0]) (rest := []) rfl (by decide) rfl rfl (Nat.le_of_ble_eq_true rfl) (s190 e8) (by decide) ?_
      exact E_wk (l' := [some (.ref x0), some (.int x1), none, some (.int x3), some (.int x4), none]) ⟨rfl, rfl, rfl, rfl, trivial⟩ (s188_164 k0 h hr)
noncomputable def f188_140 (x0 : Nat) (x1 : Int32) (x2 : Int32) (x3 : Int32) (x4 : Int32) (s : xS) : Option (xS × Unit) := (f182 x0 s).bind fun z1 => f188_144 x0 x1 x2 x3 x4 z1.1
set_option maxRecDepth 20000 in
theorem s188_140 {sc : Option (Nat × (Nat → Int32))} {x0 : Nat} {x1 : Int32} {x2 : Int32} {x3 : Int32} {x4 : Int32} {s : xS} {o : xH × Option Value} {r : (xS × Unit)} (k0 : oK x0 12 = true) (h : f188_140 x0 x1 x2 x3 x4 s = some r) (hr : dn188 o r) : Ev sc 5 188 [] 140 [some (.ref x0), some (.int x1), some (.int x2), some (.int x3), some (.int x4), none] [] (hk_of s) o := by
  unfold f188_140 at h
  refine E_blk rfl ?_
  refine E_ps 1 (pc' := 141) (l' := [some (.ref x0), some (.int x1), some (.int x2), some (.int x3), some (.int x4), none]) (st' := [.ref x0]) rfl ?_
  obtain ⟨z1, e2, h⟩ := Option.bind_eq_some_iff.mp h
  refine E_callV (vs := [.ref x0]) (rest := []) rfl (by decide) rfl rfl (Nat.le_of_ble_eq_true rfl) (s182 e2) (by decide) ?_
  exact E_wk (l' := [some (.ref x0), some (.int x1), some (.int x2), some (.int x3), some (.int x4), none]) ⟨rfl, rfl, rfl, rfl, rfl, trivial⟩ (s188_144 k0 h hr)
noncomputable def f188_123 (x0 : Nat) (x1 : Int32) (x2 : Int32) (x3 : Int32) (x4 : Int32) (s : xS) : Option (xS × Unit) := if x4 = 0 then (f188_144 x0 x1 x2 x3 x4 s) else ((hk_R x0 18).bind fun a2 => (aB s a2 (s.1 x0 26)).bind fun v4 => if v4 = 0 then (f188_144 x0 x1 x2 x3 x4 s) else (f188_140 x0 x1 x2 x3 x4 s))
set_option maxRecDepth 20000 in
theorem s188_123 {sc : Option (Nat × (Nat → Int32))} {x0 : Nat} {x1 : Int32} {x2 : Int32} {x3 : Int32} {x4 : Int32} {s : xS} {o : xH × Option Value} {r : (xS × Unit)} (k0 : oK x0 12 = true) (h : f188_123 x0 x1 x2 x3 x4 s = some r) (hr : dn188 o r) : Ev sc 5 188 [] 123 [some (.ref x0), some (.int x1), some (.int x2), some (.int x3), some (.int x4), none] [] (hk_of s) o := by
  unfold f188_123 at h
  refine E_blk rfl ?_
  refine E_ps 1 (pc' := 125) (l' := [some (.ref x0), some (.int x1), some (.int x2), some (.int x3), some (.int x4), none]) (st' := [.int x4]) rfl ?_
  by_cases c1 : x4 = 0
  · rw [if_pos c1] at h
    refine E_jt rfl rfl c1 ?_
    exact E_wk (l' := [some (.ref x0), some (.int x1), some (.int x2), some (.int x3), some (.int x4), none]) ⟨rfl, rfl, rfl, rfl, rfl, trivial⟩ (s188_144 k0 h hr)
  · rw [if_neg c1] at h
    refine E_jf rfl rfl c1 ?_
    refine E_blk rfl ?_
    refine E_ps 1 (pc' := 129) (l' := [some (.ref x0), some (.int x1), some (.int x2), some (.int x3), some (.int x4), none]) (st' := [.ref x0]) rfl ?_
    obtain ⟨a2, e3, h⟩ := Option.bind_eq_some_iff.mp h
    refine E_gr k0 (by decide) rfl e3 ?_
    refine E_ps 1 (pc' := 133) (l' := [some (.ref x0), some (.int x1), some (.int x2), some (.int x3), some (.int x4), none]) (st' := [.ref x0, .ref a2]) rfl ?_
    refine E_gi k0 (by decide) rfl ?_
    obtain ⟨v4, e5, h⟩ := Option.bind_eq_some_iff.mp h
    refine E_ab e5 ?_
    by_cases c6 : v4 = 0
    · rw [if_pos c6] at h
      refine E_jt rfl rfl c6 ?_
      exact E_wk (l' := [some (.ref x0), some (.int x1), some (.int x2), some (.int x3), some (.int x4), none]) ⟨rfl, rfl, rfl, rfl, rfl, trivial⟩ (s188_144 k0 h hr)
    · rw [if_neg c6] at h
      refine E_jf rfl rfl c6 ?_
      exact E_wk (l' := [some (.ref x0), some (.int x1), some (.int x2), some (.int x3), some (.int x4), none]) ⟨rfl, rfl, rfl, rfl, rfl, trivial⟩ (s188_140 k0 h hr)
noncomputable def f188_107 (x0 : Nat) (x1 : Int32) (x2 : Int32) (x3 : Int32) (x4 : Int32) (s : xS) : Option (xS × Unit) := if x3 = 0 then (f188_123 x0 x1 x2 x3 x4 s) else ((hk_R x0 17).bind fun a2 => (aB s a2 (s.1 x0 26)).bind fun v4 => if v4 = 0 then (f188_123 x0 x1 x2 x3 x4 s) else (f188_140 x0 x1 x2 x3 x4 s))
set_option maxRecDepth 20000 in
theorem s188_107 {sc : Option (Nat × (Nat → Int32))} {x0 : Nat} {x1 : Int32} {x2 : Int32} {x3 : Int32} {x4 : Int32} {s : xS} {o : xH × Option Value} {r : (xS × Unit)} (k0 : oK x0 12 = true) (h : f188_107 x0 x1 x2 x3 x4 s = some r) (hr : dn188 o r) : Ev sc 5 188 [] 107 [some (.ref x0), some (.int x1), some (.int x2), some (.int x3), some (.int x4), none] [] (hk_of s) o := by
  unfold f188_107 at h
  refine E_blk rfl ?_
  refine E_ps 1 (pc' := 108) (l' := [some (.ref x0), some (.int x1), some (.int x2), some (.int x3), some (.int x4), none]) (st' := [.int x3]) rfl ?_
  by_cases c1 : x3 = 0
  · rw [if_pos c1] at h
    refine E_jt rfl rfl c1 ?_
    exact E_wk (l' := [some (.ref x0), some (.int x1), some (.int x2), some (.int x3), some (.int x4), none]) ⟨rfl, rfl, rfl, rfl, rfl, trivial⟩ (s188_123 k0 h hr)
  · rw [if_neg c1] at h
    refine E_jf rfl rfl c1 ?_
    refine E_blk rfl ?_
    refine E_ps 1 (pc' := 112) (l' := [some (.ref x0), some (.int x1), some (.int x2), some (.int x3), some (.int x4), none]) (st' := [.ref x0]) rfl ?_
    obtain ⟨a2, e3, h⟩ := Option.bind_eq_some_iff.mp h
    refine E_gr k0 (by decide) rfl e3 ?_
    refine E_ps 1 (pc' := 116) (l' := [some (.ref x0), some (.int x1), some (.int x2), some (.int x3), some (.int x4), none]) (st' := [.ref x0, .ref a2]) rfl ?_
    refine E_gi k0 (by decide) rfl ?_
    obtain ⟨v4, e5, h⟩ := Option.bind_eq_some_iff.mp h
    refine E_ab e5 ?_
    by_cases c6 : v4 = 0
    · rw [if_pos c6] at h
      refine E_jt rfl rfl c6 ?_
      exact E_wk (l' := [some (.ref x0), some (.int x1), some (.int x2), some (.int x3), some (.int x4), none]) ⟨rfl, rfl, rfl, rfl, rfl, trivial⟩ (s188_123 k0 h hr)
    · rw [if_neg c6] at h
      refine E_jf rfl rfl c6 ?_
      exact E_wk (l' := [some (.ref x0), some (.int x1), some (.int x2), some (.int x3), some (.int x4), none]) ⟨rfl, rfl, rfl, rfl, rfl, trivial⟩ (s188_140 k0 h hr)
noncomputable def f188_85 (x0 : Nat) (x1 : Int32) (x2 : Int32) (x3 : Int32) (x4 : Int32) (x5 : Int32) (s : xS) : Option (xS × Unit) := if x5 = 0 then (if x2 = 0 then (f188_107 x0 x1 x2 x3 x4 s) else ((hk_R x0 12).bind fun a3 => (aI s a3 (s.1 x0 26)).bind fun v5 => if v5 = (4 : Int32) then (f188_140 x0 x1 x2 x3 x4 s) else (f188_107 x0 x1 x2 x3 x4 s))) else (f188_140 x0 x1 x2 x3 x4 s)
set_option maxRecDepth 20000 in
theorem s188_85 {sc : Option (Nat × (Nat → Int32))} {x0 : Nat} {x1 : Int32} {x2 : Int32} {x3 : Int32} {x4 : Int32} {x5 : Int32} {s : xS} {o : xH × Option Value} {r : (xS × Unit)} (k0 : oK x0 12 = true) (h : f188_85 x0 x1 x2 x3 x4 x5 s = some r) (hr : dn188 o r) : Ev sc 5 188 [] 85 [some (.ref x0), some (.int x1), some (.int x2), some (.int x3), some (.int x4), some (.int x5)] [] (hk_of s) o := by
  unfold f188_85 at h
  refine E_blk rfl ?_
  refine E_ps 1 (pc' := 87) (l' := [some (.ref x0), some (.int x1), some (.int x2), some (.int x3), some (.int x4), some (.int x5)]) (st' := [.int x5]) rfl ?_
  by_cases c1 : x5 = 0
  · rw [if_pos c1] at h
    refine E_jt rfl rfl c1 ?_
    refine E_blk rfl ?_
    refine E_ps 1 (pc' := 91) (l' := [some (.ref x0), some (.int x1), some (.int x2), some (.int x3), some (.int x4), some (.int x5)]) (st' := [.int x2]) rfl ?_
    by_cases c2 : x2 = 0
    · rw [if_pos c2] at h
      refine E_jt rfl rfl c2 ?_
      exact E_wk (l' := [some (.ref x0), some (.int x1), some (.int x2), some (.int x3), some (.int x4), none]) ⟨rfl, rfl, rfl, rfl, rfl, trivial⟩ (s188_107 k0 h hr)
    · rw [if_neg c2] at h
      refine E_jf rfl rfl c2 ?_
      refine E_blk rfl ?_
      refine E_ps 1 (pc' := 95) (l' := [some (.ref x0), some (.int x1), some (.int x2), some (.int x3), some (.int x4), some (.int x5)]) (st' := [.ref x0]) rfl ?_
      obtain ⟨a3, e4, h⟩ := Option.bind_eq_some_iff.mp h
      refine E_gr k0 (by decide) rfl e4 ?_
      refine E_ps 1 (pc' := 99) (l' := [some (.ref x0), some (.int x1), some (.int x2), some (.int x3), some (.int x4), some (.int x5)]) (st' := [.ref x0, .ref a3]) rfl ?_
      refine E_gi k0 (by decide) rfl ?_
      obtain ⟨v5, e6, h⟩ := Option.bind_eq_some_iff.mp h
      refine E_ai e6 ?_
      refine E_ps 1 (pc' := 104) (l' := [some (.ref x0), some (.int x1), some (.int x2), some (.int x3), some (.int x4), some (.int x5)]) (st' := [.int (4 : Int32), .int v5]) rfl ?_
      by_cases c7 : v5 = (4 : Int32)
      · rw [if_pos c7] at h
        refine E_jt rfl rfl c7 ?_
        exact E_wk (l' := [some (.ref x0), some (.int x1), some (.int x2), some (.int x3), some (.int x4), none]) ⟨rfl, rfl, rfl, rfl, rfl, trivial⟩ (s188_140 k0 h hr)
      · rw [if_neg c7] at h
        refine E_jf rfl rfl c7 ?_
        exact E_wk (l' := [some (.ref x0), some (.int x1), some (.int x2), some (.int x3), some (.int x4), none]) ⟨rfl, rfl, rfl, rfl, rfl, trivial⟩ (s188_107 k0 h hr)
  · rw [if_neg c1] at h
    refine E_jf rfl rfl c1 ?_
    exact E_wk (l' := [some (.ref x0), some (.int x1), some (.int x2), some (.int x3), some (.int x4), none]) ⟨rfl, rfl, rfl, rfl, rfl, trivial⟩ (s188_140 k0 h hr)
noncomputable def f188_66 (x0 : Nat) (x1 : Int32) (x2 : Int32) (x3 : Int32) (x4 : Int32) (y0 : Int32) (s : xS) : Option (xS × Unit) := if x1 = 0 then (if x2 = 0 then (if x3 = 0 then (if x4 = 0 then (f188_140 x0 x1 x2 x3 x4 s) else (f188_85 x0 x1 x2 x3 x4 y0 s)) else (f188_85 x0 x1 x2 x3 x4 y0 s)) else (f188_85 x0 x1 x2 x3 x4 y0 s)) else (f188_85 x0 x1 x2 x3 x4 y0 s)
set_option maxRecDepth 20000 in
theorem s188_66 {sc : Option (Nat × (Nat → Int32))} {x0 : Nat} {x1 : Int32} {x2 : Int32} {x3 : Int32} {x4 : Int32} {y0 : Int32} {s : xS} {o : xH × Option Value} {r : (xS × Unit)} (k0 : oK x0 12 = true) (h : f188_66 x0 x1 x2 x3 x4 y0 s = some r) (hr : dn188 o r) : Ev sc 5 188 [] 66 [some (.ref x0), some (.int x1), some (.int x2), some (.int x3), some (.int x4), none] [.int y0] (hk_of s) o := by
  unfold f188_66 at h
  refine E_blk rfl ?_
  refine E_ps 2 (pc' := 69) (l' := [some (.ref x0), some (.int x1), some (.int x2), some (.int x3), some (.int x4), some (.int y0)]) (st' := [.int x1]) rfl ?_
  by_cases c1 : x1 = 0
  · rw [if_pos c1] at h
    refine E_jt rfl rfl c1 ?_
    refine E_blk rfl ?_
    refine E_ps 1 (pc' := 73) (l' := [some (.ref x0), some (.int x1), some (.int x2), some (.int x3), some (.int x4), some (.int y0)]) (st' := [.int x2]) rfl ?_
    by_cases c2 : x2 = 0
    · rw [if_pos c2] at h
      refine E_jt rfl rfl c2 ?_
      refine E_blk rfl ?_
      refine E_ps 1 (pc' := 77) (l' := [some (.ref x0), some (.int x1), some (.int x2), some (.int x3), some (.int x4), some (.int y0)]) (st' := [.int x3]) rfl ?_
      by_cases c3 : x3 = 0
      · rw [if_pos c3] at h
        refine E_jt rfl rfl c3 ?_
        refine E_blk rfl ?_
        refine E_ps 1 (pc' := 82) (l' := [some (.ref x0), some (.int x1), some (.int x2), some (.int x3), some (.int x4), some (.int y0)]) (st' := [.int x4]) rfl ?_
        by_cases c4 : x4 = 0
        · rw [if_pos c4] at h
          refine E_jt rfl rfl c4 ?_
          exact E_wk (l' := [some (.ref x0), some (.int x1), some (.int x2), some (.int x3), some (.int x4), none]) ⟨rfl, rfl, rfl, rfl, rfl, trivial⟩ (s188_140 k0 h hr)
        · rw [if_neg c4] at h
          refine E_jf rfl rfl c4 ?_
          exact E_wk (l' := [some (.ref x0), some (.int x1), some (.int x2), some (.int x3), some (.int x4), some (.int y0)]) ⟨rfl, rfl, rfl, rfl, rfl, rfl, trivial⟩ (s188_85 k0 h hr)
      · rw [if_neg c3] at h
        refine E_jf rfl rfl c3 ?_
        exact E_wk (l' := [some (.ref x0), some (.int x1), some (.int x2), some (.int x3), some (.int x4), some (.int y0)]) ⟨rfl, rfl, rfl, rfl, rfl, rfl, trivial⟩ (s188_85 k0 h hr)
    · rw [if_neg c2] at h
      refine E_jf rfl rfl c2 ?_
      exact E_wk (l' := [some (.ref x0), some (.int x1), some (.int x2), some (.int x3), some (.int x4), some (.int y0)]) ⟨rfl, rfl, rfl, rfl, rfl, rfl, trivial⟩ (s188_85 k0 h hr)
  · rw [if_neg c1] at h
    refine E_jf rfl rfl c1 ?_
    exact E_wk (l' := [some (.ref x0), some (.int x1), some (.int x2), some (.int x3), some (.int x4), some (.int y0)]) ⟨rfl, rfl, rfl, rfl, rfl, rfl, trivial⟩ (s188_85 k0 h hr)
noncomputable def f188_65 (x0 : Nat) (x1 : Int32) (x2 : Int32) (x3 : Int32) (x4 : Int32) (s : xS) : Option (xS × Unit) := f188_66 x0 x1 x2 x3 x4 (0 : Int32) s
set_option maxRecDepth 20000 in
theorem s188_65 {sc : Option (Nat × (Nat → Int32))} {x0 : Nat} {x1 : Int32} {x2 : Int32} {x3 : Int32} {x4 : Int32} {s : xS} {o : xH × Option Value} {r : (xS × Unit)} (k0 : oK x0 12 = true) (h : f188_65 x0 x1 x2 x3 x4 s = some r) (hr : dn188 o r) : Ev sc 5 188 [] 65 [some (.ref x0), some (.int x1), some (.int x2), some (.int x3), some (.int x4), none] [] (hk_of s) o := by
  unfold f188_65 at h
  refine E_blk rfl ?_
  refine E_ps 1 (pc' := 66) (l' := [some (.ref x0), some (.int x1), some (.int x2), some (.int x3), some (.int x4), none]) (st' := [.int (0 : Int32)]) rfl ?_
  exact E_wk (l' := [some (.ref x0), some (.int x1), some (.int x2), some (.int x3), some (.int x4), none]) ⟨rfl, rfl, rfl, rfl, rfl, trivial⟩ (s188_66 k0 h hr)
noncomputable def f188_61 (x0 : Nat) (x1 : Int32) (x2 : Int32) (x3 : Int32) (x4 : Int32) (s : xS) : Option (xS × Unit) := f188_66 x0 x1 x2 x3 x4 (1 : Int32) s
set_option maxRecDepth 20000 in
theorem s188_61 {sc : Option (Nat × (Nat → Int32))} {x0 : Nat} {x1 : Int32} {x2 : Int32} {x3 : Int32} {x4 : Int32} {s : xS} {o : xH × Option Value} {r : (xS × Unit)} (k0 : oK x0 12 = true) (h : f188_61 x0 x1 x2 x3 x4 s = some r) (hr : dn188 o r) : Ev sc 5 188 [] 61 [some (.ref x0), some (.int x1), some (.int x2), some (.int x3), some (.int x4), none] [] (hk_of s) o := by
  unfold f188_61 at h
  refine E_blk rfl ?_
  refine E_ps 1 (pc' := 62) (l' := [some (.ref x0), some (.int x1), some (.int x2), some (.int x3), some (.int x4), none]) (st' := [.int (1 : Int32)]) rfl ?_
  refine E_j rfl rfl ?_
  exact E_wk (l' := [some (.ref x0), some (.int x1), some (.int x2), some (.int x3), some (.int x4), none]) ⟨rfl, rfl, rfl, rfl, rfl, trivial⟩ (s188_66 k0 h hr)
noncomputable def f188 (x0 : Nat) (s : xS) : Option (xS × Unit) := ifg (oK x0 12 = true) <| (f181 x0 (1936292453 : Int64) s).bind fun z1 => (f181 x0 (482854663269 : Int64) z1.1).bind fun z3 => (f181 x0 (7497060 : Int64) z3.1).bind fun z5 => (f181 x0 (1936484720 : Int64) z5.1).bind fun z7 => if z1.2 = 0 then (f188_65 x0 z1.2 z3.2 z5.2 z7.2 z7.1) else ((hk_R x0 16).bind fun a10 => (aB z7.1 a10 (z7.1.1 x0 26)).bind fun v12 => if v12 = 0 then ((hk_R x0 12).bind fun a15 => (aI z7.1 a15 (z7.1.1 x0 26)).bind fun v17 => if v17 ≤ 0 then (f188_65 x0 z1.2 z3.2 z5.2 z7.2 z7.1) else (f188_61 x0 z1.2 z3.2 z5.2 z7.2 z7.1)) else (f188_61 x0 z1.2 z3.2 z5.2 z7.2 z7.1))
set_option maxRecDepth 20000 in
theorem s188 {sc : Option (Nat × (Nat → Int32))} {x0 : Nat} {s : xS} {r : xS × Unit} (h : f188 x0 s = some r) : Cl sc 5 188 [.ref x0] (hk_of s) (hk_of r.1, none) := by
  unfold f188 at h
  obtain ⟨k0, h⟩ := ifg_some h
  refine ⟨pg_md 188, [some (.ref x0), none, none, none, none, none], pg_mt_md (by decide), (hk_rcv k0), rfl, ?_⟩
  generalize ho : ((hk_of r.1, none) : xH × Option Value) = o
  have hr : dn188 o r := ho.symm
  refine E_blk rfl ?_
  refine E_ps 2 (pc' := 4) (l' := [some (.ref x0), none, none, none, none, none]) (st' := [.long (1936292453 : Int64), .ref x0]) rfl ?_
  obtain ⟨z1, e2, h⟩ := Option.bind_eq_some_iff.mp h
  refine E_callI (vs := [.ref x0, .long (1936292453 : Int64)]) (rest := []) rfl (by decide) rfl rfl (Nat.le_of_ble_eq_true rfl) (s181 e2) (by decide) ?_
  refine E_ps 3 (pc' := 12) (l' := [some (.ref x0), some (.int z1.2), none, none, none, none]) (st' := [.long (482854663269 : Int64), .ref x0]) rfl ?_
  obtain ⟨z3, e4, h⟩ := Option.bind_eq_some_iff.mp h
  refine E_callI (vs := [.ref x0, .long (482854663269 : Int64)]) (rest := []) rfl (by decide) rfl rfl (Nat.le_of_ble_eq_true rfl) (s181 e4) (by decide) ?_
  refine E_ps 3 (pc' := 20) (l' := [some (.ref x0), some (.int z1.2), some (.int z3.2), none, none, none]) (st' := [.long (7497060 : Int64), .ref x0]) rfl ?_
  obtain ⟨z5, e6, h⟩ := Option.bind_eq_some_iff.mp h
  refine E_callI (vs := [.ref x0, .long (7497060 : Int64)]) (rest := []) rfl (by decide) rfl rfl (Nat.le_of_ble_eq_true rfl) (s181 e6) (by decide) ?_
  refine E_ps 3 (pc' := 28) (l' := [some (.ref x0), some (.int z1.2), some (.int z3.2), some (.int z5.2), none, none]) (st' := [.long (1936484720 : Int64), .ref x0]) rfl ?_
  obtain ⟨z7, e8, h⟩ := Option.bind_eq_some_iff.mp h
  refine E_callI (vs := [.ref x0, .long (1936484720 : Int64)]) (rest := []) rfl (by decide) rfl rfl (Nat.le_of_ble_eq_true rfl) (s181 e8) (by decide) ?_
  refine E_ps 2 (pc' := 34) (l' := [some (.ref x0), some (.int z1.2), some (.int z3.2), some (.int z5.2), some (.int z7.2), none]) (st' := [.int z1.2]) rfl ?_
  by_cases c9 : z1.2 = 0
  · rw [if_pos c9] at h
    refine E_jt rfl rfl c9 ?_
    exact E_wk (l' := [some (.ref x0), some (.int z1.2), some (.int z3.2), some (.int z5.2), some (.int z7.2), none]) ⟨rfl, rfl, rfl, rfl, rfl, trivial⟩ (s188_65 k0 h hr)
  · rw [if_neg c9] at h
    refine E_jf rfl rfl c9 ?_
    refine E_blk rfl ?_
    refine E_ps 1 (pc' := 38) (l' := [some (.ref x0), some (.int z1.2), some (.int z3.2), some (.int z5.2), some (.int z7.2), none]) (st' := [.ref x0]) rfl ?_
    obtain ⟨a10, e11, h⟩ := Option.bind_eq_some_iff.mp h
    refine E_gr k0 (by decide) rfl e11 ?_
    refine E_ps 1 (pc' := 42) (l' := [some (.ref x0), some (.int z1.2), some (.int z3.2), some (.int z5.2), some (.int z7.2), none]) (st' := [.ref x0, .ref a10]) rfl ?_
    refine E_gi k0 (by decide) rfl ?_
    obtain ⟨v12, e13, h⟩ := Option.bind_eq_some_iff.mp h
    refine E_ab e13 ?_
    by_cases c14 : v12 = 0
    · rw [if_pos c14] at h
      refine E_jt rfl rfl c14 ?_
      refine E_blk rfl ?_
      refine E_ps 1 (pc' := 50) (l' := [some (.ref x0), some (.int z1.2), some (.int z3.2), some (.int z5.2), some (.int z7.2), none]) (st' := [.ref x0]) rfl ?_
      obtain ⟨a15, e16, h⟩ := Option.bind_eq_some_iff.mp h
      refine E_gr k0 (by decide) rfl e16 ?_
      refine E_ps 1 (pc' := 54) (l' := [some (.ref x0), some (.int z1.2), some (.int z3.2), some (.int z5.2), some (.int z7.2), none]) (st' := [.ref x0, .ref a15]) rfl ?_
      refine E_gi k0 (by decide) rfl ?_
      obtain ⟨v17, e18, h⟩ := Option.bind_eq_some_iff.mp h
      refine E_ai e18 ?_
      by_cases c19 : v17 ≤ 0
      · rw [if_pos c19] at h
        refine E_jt rfl rfl c19 ?_
        exact E_wk (l' := [some (.ref x0), some (.int z1.2), some (.int z3.2), some (.int z5.2), some (.int z7.2), none]) ⟨rfl, rfl, rfl, rfl, rfl, trivial⟩ (s188_65 k0 h hr)
      · rw [if_neg c19] at h
        refine E_jf rfl rfl c19 ?_
        exact E_wk (l' := [some (.ref x0), some (.int z1.2), some (.int z3.2), some (.int z5.2), some (.int z7.2), none]) ⟨rfl, rfl, rfl, rfl, rfl, trivial⟩ (s188_61 k0 h hr)
    · rw [if_neg c14] at h
      refine E_jf rfl rfl c14 ?_
      exact E_wk (l' := [some (.ref x0), some (.int z1.2), some (.int z3.2), some (.int z5.2), some (.int z7.2), none]) ⟨rfl, rfl, rfl, rfl, rfl, trivial⟩ (s188_61 k0 h hr)

-- 187: ThreePlatesModel.shop()I
def dn187 (o : xH × Option Value) (r : xS × Int32) : Prop := o = (hk_of r.1, some (.int r.2))
def dn187_88 (sc : Option (Nat × (Nat → Int32))) (x0 : Nat) (o : xH × Option Value) (r : ((xS) ⊕ (xS × Int32))) : Prop := match r with
  | .inl q => Ev sc 6 187 [] 88 [some (.ref x0), none] [] (hk_of q) o
  | .inr r => dn187 o r
def dn187_128 (sc : Option (Nat × (Nat → Int32))) (x0 : Nat) (o : xH × Option Value) (r : ((Int32 × xS) ⊕ (xS × Int32))) : Prop := match r with
  | .inl q => Ev sc 6 187 [] 128 [some (.ref x0), some (.int q.1)] [] (hk_of q.2) o
  | .inr r => dn187 o r
def dn187_169 (sc : Option (Nat × (Nat → Int32))) (x0 : Nat) (o : xH × Option Value) (r : ((Int32 × xS) ⊕ (xS × Int32))) : Prop := match r with
  | .inl q => Ev sc 6 187 [] 169 [some (.ref x0), some (.int q.1)] [] (hk_of q.2) o
  | .inr r => dn187 o r
def dn187_209 (sc : Option (Nat × (Nat → Int32))) (x0 : Nat) (o : xH × Option Value) (r : ((Int32 × xS) ⊕ (xS × Int32))) : Prop := match r with
  | .inl q => Ev sc 6 187 [] 209 [some (.ref x0), some (.int q.1)] [] (hk_of q.2) o
  | .inr r => dn187 o r
noncomputable def f187_209 (x0 : Nat) (x1 : Int32) (s : xS) : Option ((Int32 × xS) ⊕ (xS × Int32)) := if (3 : Int32) ≤ x1 then (Option.map Sum.inr ((hk_R x0 12).bind fun a2 => (aI s a2 (s.1 x0 25)).bind fun v4 => some (s, v4))) else ((hk_R x0 52).bind fun a6 => (wI s a6 x1 (-1 : Int32)).bind fun t8 => some (Sum.inl ((x1 + (1 : Int32)), t8)))
set_option maxRecDepth 20000 in
theorem s187_209 {sc : Option (Nat × (Nat → Int32))} {x0 : Nat} {x1 : Int32} {s : xS} {o : xH × Option Value} {r : ((Int32 × xS) ⊕ (xS × Int32))} (k0 : oK x0 12 = true) (h : f187_209 x0 x1 s = some r) (hr : dn187_209 sc x0 o r) : Ev sc 6 187 [] 209 [some (.ref x0), some (.int x1)] [] (hk_of s) o := by
  unfold f187_209 at h
  refine E_blk rfl ?_
  refine E_ps 2 (pc' := 211) (l' := [some (.ref x0), some (.int x1)]) (st' := [.int (3 : Int32), .int x1]) rfl ?_
  by_cases c1 : (3 : Int32) ≤ x1
  · rw [if_pos c1] at h
    refine E_jt rfl rfl c1 ?_
    obtain ⟨r, h, hr⟩ := lf_some (Dn := dn187_209 sc x0 o) h hr
    refine E_blk rfl ?_
    refine E_ps 1 (pc' := 228) (l' := [some (.ref x0), some (.int x1)]) (st' := [.ref x0]) rfl ?_
    obtain ⟨a2, e3, h⟩ := Option.bind_eq_some_iff.mp h
    refine E_gr k0 (by decide) rfl e3 ?_
    refine E_ps 1 (pc' := 232) (l' := [some (.ref x0), some (.int x1)]) (st' := [.ref x0, .ref a2]) rfl ?_
    refine E_gi k0 (by decide) rfl ?_
    obtain ⟨v4, e5, h⟩ := Option.bind_eq_some_iff.mp h
    refine E_ai e5 ?_
    cases h
    exact E_ret rfl (pg_mt_md (by decide)) rfl hr
  · rw [if_neg c1] at h
    refine E_jf rfl rfl c1 ?_
    refine E_blk rfl ?_
    refine E_ps 1 (pc' := 215) (l' := [some (.ref x0), some (.int x1)]) (st' := [.ref x0]) rfl ?_
    obtain ⟨a6, e7, h⟩ := Option.bind_eq_some_iff.mp h
    refine E_gr k0 (by decide) rfl e7 ?_
    refine E_ps 2 (pc' := 220) (l' := [some (.ref x0), some (.int x1)]) (st' := [.int (-1 : Int32), .int x1, .ref a6]) rfl ?_
    obtain ⟨t8, e9, h⟩ := Option.bind_eq_some_iff.mp h
    refine E_wi e9 ?_
    refine E_ps 1 (pc' := 224) (l' := [some (.ref x0), some (.int (x1 + (1 : Int32)))]) (st' := []) rfl ?_
    refine E_j rfl rfl ?_
    cases h
    exact E_wk (l' := [some (.ref x0), some (.int (x1 + (1 : Int32)))]) ⟨rfl, rfl, trivial⟩ hr
theorem s187_209_w {sc : Option (Nat × (Nat → Int32))} {x0 : Nat} {x1 : Int32} {s : xS} {o : xH × Option Value} {r : (xS × Int32)} (k0 : oK x0 12 = true) (h : whl (fun q : (Int32 × xS) => f187_209 x0 q.1 q.2) (x1, s) = some r) (hr : dn187 o r) : Ev sc 6 187 [] 209 [some (.ref x0), some (.int x1)] [] (hk_of s) o := by
  refine whl_snd (E := fun q : (Int32 × xS) => Ev sc 6 187 [] 209 [some (.ref x0), some (.int q.1)] [] (hk_of q.2) o) (P := fun r => dn187 o r) (fun q r h hr => ?_) h hr
  exact s187_209 k0 h (by cases r <;> exact hr)
noncomputable def f187_169 (x0 : Nat) (x1 : Int32) (s : xS) : Option ((Int32 × xS) ⊕ (xS × Int32)) := if (4 : Int32) ≤ x1 then (Option.map Sum.inr ((pI s x0 27 (0 : Int32)).bind fun t2 => (pI t2 x0 28 (0 : Int32)).bind fun t4 => (pI t4 x0 37 (0 : Int32)).bind fun t6 => (pI t6 x0 71 (0 : Int32)).bind fun t8 => whl (fun q : (Int32 × xS) => f187_209 x0 q.1 q.2) ((0 : Int32), t8))) else ((hk_R x0 24).bind fun a10 => (wB s a10 x1 (0 : Int32)).bind fun t12 => some (Sum.inl ((x1 + (1 : Int32)), t12)))
set_option maxRecDepth 20000 in
theorem s187_169 {sc : Option (Nat × (Nat → Int32))} {x0 : Nat} {x1 : Int32} {s : xS} {o : xH × Option Value} {r : ((Int32 × xS) ⊕ (xS × Int32))} (k0 : oK x0 12 = true) (h : f187_169 x0 x1 s = some r) (hr : dn187_169 sc x0 o r) : Ev sc 6 187 [] 169 [some (.ref x0), some (.int x1)] [] (hk_of s) o := by
  unfold f187_169 at h
  refine E_blk rfl ?_
  refine E_ps 2 (pc' := 171) (l' := [some (.ref x0), some (.int x1)]) (st' := [.int (4 : Int32), .int x1]) rfl ?_
  by_cases c1 : (4 : Int32) ≤ x1
  · rw [if_pos c1] at h
    refine E_jt rfl rfl c1 ?_
    obtain ⟨r, h, hr⟩ := lf_some (Dn := dn187_169 sc x0 o) h hr
    refine E_blk rfl ?_
    refine E_ps 2 (pc' := 189) (l' := [some (.ref x0), some (.int x1)]) (st' := [.int (0 : Int32), .ref x0]) rfl ?_
    obtain ⟨t2, e3, h⟩ := Option.bind_eq_some_iff.mp h
    refine E_pi k0 (by decide) rfl e3 ?_
    refine E_ps 2 (pc' := 194) (l' := [some (.ref x0), some (.int x1)]) (st' := [.int (0 : Int32), .ref x0]) rfl ?_
    obtain ⟨t4, e5, h⟩ := Option.bind_eq_some_iff.mp h
    refine E_pi k0 (by decide) rfl e5 ?_
    refine E_ps 2 (pc' := 199) (l' := [some (.ref x0), some (.int x1)]) (st' := [.int (0 : Int32), .ref x0]) rfl ?_
    obtain ⟨t6, e7, h⟩ := Option.bind_eq_some_iff.mp h
    refine E_pi k0 (by decide) rfl e7 ?_
    refine E_ps 2 (pc' := 204) (l' := [some (.ref x0), some (.int x1)]) (st' := [.int (0 : Int32), .ref x0]) rfl ?_
    obtain ⟨t8, e9, h⟩ := Option.bind_eq_some_iff.mp h
    refine E_pi k0 (by decide) rfl e9 ?_
    refine E_ps 2 (pc' := 209) (l' := [some (.ref x0), some (.int (0 : Int32))]) (st' := []) rfl ?_
    exact E_wk (l' := [some (.ref x0), some (.int (0 : Int32))]) ⟨rfl, rfl, trivial⟩ (s187_209_w k0 h hr)
  · rw [if_neg c1] at h
    refine E_jf rfl rfl c1 ?_
    refine E_blk rfl ?_
    refine E_ps 1 (pc' := 175) (l' := [some (.ref x0), some (.int x1)]) (st' := [.ref x0]) rfl ?_
    obtain ⟨a10, e11, h⟩ := Option.bind_eq_some_iff.mp h
    refine E_gr k0 (by decide) rfl e11 ?_
    refine E_ps 2 (pc' := 180) (l' := [some (.ref x0), some (.int x1)]) (st' := [.int (0 : Int32), .int x1, .ref a10]) rfl ?_
    obtain ⟨t12, e13, h⟩ := Option.bind_eq_some_iff.mp h
    refine E_wb e13 ?_
    refine E_ps 1 (pc' := 184) (l' := [some (.ref x0), some (.int (x1 + (1 : Int32)))]) (st' := []) rfl ?_
    refine E_j rfl rfl ?_
    cases h
    exact E_wk (l' := [some (.ref x0), some (.int (x1 + (1 : Int32)))]) ⟨rfl, rfl, trivial⟩ hr
theorem s187_169_w {sc : Option (Nat × (Nat → Int32))} {x0 : Nat} {x1 : Int32} {s : xS} {o : xH × Option Value} {r : (xS × Int32)} (k0 : oK x0 12 = true) (h : whl (fun q : (Int32 × xS) => f187_169 x0 q.1 q.2) (x1, s) = some r) (hr : dn187 o r) : Ev sc 6 187 [] 169 [some (.ref x0), some (.int x1)] [] (hk_of s) o := by
  refine whl_snd (E := fun q : (Int32 × xS) => Ev sc 6 187 [] 169 [some (.ref x0), some (.int q.1)] [] (hk_of q.2) o) (P := fun r => dn187 o r) (fun q r h hr => ?_) h hr
  exact s187_169 k0 h (by cases r <;> exact hr)
noncomputable def f187_128 (x0 : Nat) (x1 : Int32) (s : xS) : Option ((Int32 × xS) ⊕ (xS × Int32)) := if (100 : Int32) ≤ x1 then (Option.map Sum.inr (whl (fun q : (Int32 × xS) => f187_169 x0 q.1 q.2) ((0 : Int32), s))) else ((hk_R x0 20).bind fun a2 => (hk_R x0 15).bind fun a4 => (aI s a4 (((100 : Int32) * (s.1 x0 25)) + x1)).bind fun v6 => (wI s a2 x1 v6).bind fun t8 => (hk_R x0 21).bind fun a10 => (wI t8 a10 x1 (0 : Int32)).bind fun t12 => some (Sum.inl ((x1 + (1 : Int32)), t12)))
set_option maxRecDepth 20000 in
theorem s187_128 {sc : Option (Nat × (Nat → Int32))} {x0 : Nat} {x1 : Int32} {s : xS} {o : xH × Option Value} {r : ((Int32 × xS) ⊕ (xS × Int32))} (k0 : oK x0 12 = true) (h : f187_128 x0 x1 s = some r) (hr : dn187_128 sc x0 o r) : Ev sc 6 187 [] 128 [some (.ref x0), some (.int x1)] [] (hk_of s) o := by
  unfold f187_128 at h
  refine E_blk rfl ?_
  refine E_ps 2 (pc' := 131) (l' := [some (.ref x0), some (.int x1)]) (st' := [.int (100 : Int32), .int x1]) rfl ?_
  by_cases c1 : (100 : Int32) ≤ x1
  · rw [if_pos c1] at h
    refine E_jt rfl rfl c1 ?_
    obtain ⟨r, h, hr⟩ := lf_some (Dn := dn187_128 sc x0 o) h hr
    refine E_blk rfl ?_
    refine E_ps 2 (pc' := 169) (l' := [some (.ref x0), some (.int (0 : Int32))]) (st' := []) rfl ?_
    exact E_wk (l' := [some (.ref x0), some (.int (0 : Int32))]) ⟨rfl, rfl, trivial⟩ (s187_169_w k0 h hr)
  · rw [if_neg c1] at h
    refine E_jf rfl rfl c1 ?_
    refine E_blk rfl ?_
    refine E_ps 1 (pc' := 135) (l' := [some (.ref x0), some (.int x1)]) (st' := [.ref x0]) rfl ?_
    obtain ⟨a2, e3, h⟩ := Option.bind_eq_some_iff.mp h
    refine E_gr k0 (by decide) rfl e3 ?_
    refine E_ps 2 (pc' := 140) (l' := [some (.ref x0), some (.int x1)]) (st' := [.ref x0, .int x1, .ref a2]) rfl ?_
    obtain ⟨a4, e5, h⟩ := Option.bind_eq_some_iff.mp h
    refine E_gr k0 (by decide) rfl e5 ?_
    refine E_ps 2 (pc' := 146) (l' := [some (.ref x0), some (.int x1)]) (st' := [.ref x0, .int (100 : Int32), .ref a4, .int x1, .ref a2]) rfl ?_
    refine E_gi k0 (by decide) rfl ?_
    refine E_ps 3 (pc' := 152) (l' := [some (.ref x0), some (.int x1)]) (st' := [.int (((100 : Int32) * (s.1 x0 25)) + x1), .ref a4, .int x1, .ref a2]) rfl ?_
    obtain ⟨v6, e7, h⟩ := Option.bind_eq_some_iff.mp h
    refine E_ai e7 ?_
    obtain ⟨t8, e9, h⟩ := Option.bind_eq_some_iff.mp h
    refine E_wi e9 ?_
    refine E_ps 1 (pc' := 155) (l' := [some (.ref x0), some (.int x1)]) (st' := [.ref x0]) rfl ?_
    obtain ⟨a10, e11, h⟩ := Option.bind_eq_some_iff.mp h
    refine E_gr k0 (by decide) rfl e11 ?_
    refine E_ps 2 (pc' := 160) (l' := [some (.ref x0), some (.int x1)]) (st' := [.int (0 : Int32), .int x1, .ref a10]) rfl ?_
    obtain ⟨t12, e13, h⟩ := Option.bind_eq_some_iff.mp h
    refine E_wi e13 ?_
    refine E_ps 1 (pc' := 164) (l' := [some (.ref x0), some (.int (x1 + (1 : Int32)))]) (st' := []) rfl ?_
    refine E_j rfl rfl ?_
    cases h
    exact E_wk (l' := [some (.ref x0), some (.int (x1 + (1 : Int32)))]) ⟨rfl, rfl, trivial⟩ hr
theorem s187_128_w {sc : Option (Nat × (Nat → Int32))} {x0 : Nat} {x1 : Int32} {s : xS} {o : xH × Option Value} {r : (xS × Int32)} (k0 : oK x0 12 = true) (h : whl (fun q : (Int32 × xS) => f187_128 x0 q.1 q.2) (x1, s) = some r) (hr : dn187 o r) : Ev sc 6 187 [] 128 [some (.ref x0), some (.int x1)] [] (hk_of s) o := by
  refine whl_snd (E := fun q : (Int32 × xS) => Ev sc 6 187 [] 128 [some (.ref x0), some (.int q.1)] [] (hk_of q.2) o) (P := fun r => dn187 o r) (fun q r h hr => ?_) h hr
  exact s187_128 k0 h (by cases r <;> exact hr)
noncomputable def f187_109 (x0 : Nat) (s : xS) : Option (xS × Int32) := (f177 x0 s).bind fun z1 => if z1.2 = 0 then (some (z1.1, (-1 : Int32))) else ((pI z1.1 x0 25 (z1.1.1 x0 26)).bind fun t4 => whl (fun q : (Int32 × xS) => f187_128 x0 q.1 q.2) ((0 : Int32), t4))
set_option maxRecDepth 20000 in
theorem s187_109 {sc : Option (Nat × (Nat → Int32))} {x0 : Nat} {s : xS} {o : xH × Option Value} {r : (xS × Int32)} (k0 : oK x0 12 = true) (h : f187_109 x0 s = some r) (hr : dn187 o r) : Ev sc 6 187 [] 109 [some (.ref x0), none] [] (hk_of s) o := by
  unfold f187_109 at h
  refine E_blk rfl ?_
  refine E_ps 1 (pc' := 110) (l' := [some (.ref x0), none]) (st' := [.ref x0]) rfl ?_
  obtain ⟨z1, e2, h⟩ := Option.bind_eq_some_iff.mp h
  refine E_callI (vs := [.ref x0]) (rest := []) rfl (by decide) rfl rfl (Nat.le_of_ble_eq_true rfl) (s177 e2) (by decide) ?_
  by_cases c3 : z1.2 = 0
  · rw [if_pos c3] at h
    refine E_jt rfl rfl c3 ?_
    refine E_blk rfl ?_
    refine E_ps 1 (pc' := 117) (l' := [some (.ref x0), none]) (st' := [.int (-1 : Int32)]) rfl ?_
    cases h
    exact E_ret rfl (pg_mt_md (by decide)) rfl hr
  · rw [if_neg c3] at h
    refine E_jf rfl rfl c3 ?_
    refine E_blk rfl ?_
    refine E_ps 2 (pc' := 120) (l' := [some (.ref x0), none]) (st' := [.ref x0, .ref x0]) rfl ?_
    refine E_gi k0 (by decide) rfl ?_
    obtain ⟨t4, e5, h⟩ := Option.bind_eq_some_iff.mp h
    refine E_pi k0 (by decide) rfl e5 ?_
    refine E_ps 2 (pc' := 128) (l' := [some (.ref x0), some (.int (0 : Int32))]) (st' := []) rfl ?_
    exact E_wk (l' := [some (.ref x0), some (.int (0 : Int32))]) ⟨rfl, rfl, trivial⟩ (s187_128_w k0 h hr)
noncomputable def f187_88 (x0 : Nat) (s : xS) : Option ((xS) ⊕ (xS × Int32)) := (f177 x0 s).bind fun z1 => if z1.2 = 0 then (Option.map Sum.inr (f187_109 x0 z1.1)) else (if (z1.1.1 x0 8) = 0 then (Option.map Sum.inr (f187_109 x0 z1.1)) else ((f188 x0 z1.1).bind fun z5 => some (Sum.inl z5.1)))
set_option maxRecDepth 20000 in
theorem s187_88 {sc : Option (Nat × (Nat → Int32))} {x0 : Nat} {s : xS} {o : xH × Option Value} {r : ((xS) ⊕ (xS × Int32))} (k0 : oK x0 12 = true) (h : f187_88 x0 s = some r) (hr : dn187_88 sc x0 o r) : Ev sc 6 187 [] 88 [some (.ref x0), none] [] (hk_of s) o := by
  unfold f187_88 at h
  refine E_blk rfl ?_
  refine E_ps 1 (pc' := 89) (l' := [some (.ref x0), none]) (st' := [.ref x0]) rfl ?_
  obtain ⟨z1, e2, h⟩ := Option.bind_eq_some_iff.mp h
  refine E_callI (vs := [.ref x0]) (rest := []) rfl (by decide) rfl rfl (Nat.le_of_ble_eq_true rfl) (s177 e2) (by decide) ?_
  by_cases c3 : z1.2 = 0
  · rw [if_pos c3] at h
    refine E_jt rfl rfl c3 ?_
    obtain ⟨r, h, hr⟩ := lf_some (Dn := dn187_88 sc x0 o) h hr
    exact E_wk (l' := [some (.ref x0), none]) ⟨rfl, trivial⟩ (s187_109 k0 h hr)
  · rw [if_neg c3] at h
    refine E_jf rfl rfl c3 ?_
    refine E_blk rfl ?_
    refine E_ps 1 (pc' := 96) (l' := [some (.ref x0), none]) (st' := [.ref x0]) rfl ?_
    refine E_gi k0 (by decide) rfl ?_
    by_cases c4 : (z1.1.1 x0 8) = 0
    · rw [if_pos c4] at h
      refine E_jt rfl rfl c4 ?_
      obtain ⟨r, h, hr⟩ := lf_some (Dn := dn187_88 sc x0 o) h hr
      exact E_wk (l' := [some (.ref x0), none]) ⟨rfl, trivial⟩ (s187_109 k0 h hr)
    · rw [if_neg c4] at h
      refine E_jf rfl rfl c4 ?_
      refine E_blk rfl ?_
      refine E_ps 1 (pc' := 103) (l' := [some (.ref x0), none]) (st' := [.ref x0]) rfl ?_
      obtain ⟨z5, e6, h⟩ := Option.bind_eq_some_iff.mp h
      refine E_callV (vs := [.ref x0]) (rest := []) rfl (by decide) rfl rfl (Nat.le_of_ble_eq_true rfl) (s188 e6) (by decide) ?_
      refine E_j rfl rfl ?_
      cases h
      exact E_wk (l' := [some (.ref x0), none]) ⟨rfl, trivial⟩ hr
theorem s187_88_w {sc : Option (Nat × (Nat → Int32))} {x0 : Nat} {s : xS} {o : xH × Option Value} {r : (xS × Int32)} (k0 : oK x0 12 = true) (h : whl (fun q : (xS) => f187_88 x0 q) s = some r) (hr : dn187 o r) : Ev sc 6 187 [] 88 [some (.ref x0), none] [] (hk_of s) o := by
  refine whl_snd (E := fun q : (xS) => Ev sc 6 187 [] 88 [some (.ref x0), none] [] (hk_of q) o) (P := fun r => dn187 o r) (fun q r h hr => ?_) h hr
  exact s187_88 k0 h (by cases r <;> exact hr)
noncomputable def f187 (x0 : Nat) (s : xS) : Option (xS × Int32) := ifg (oK x0 12 = true) <| (f186 x0 s).bind fun z1 => (pI z1.1 x0 26 ((1 : Int32) - (z1.1.1 x0 25))).bind fun t3 => (hk_R x0 11).bind fun a5 => (wI t3 a5 (t3.1 x0 26) (3 : Int32)).bind fun t7 => (hk_R x0 12).bind fun a9 => (wI t7 a9 (t7.1 x0 26) (0 : Int32)).bind fun t11 => (hk_R x0 13).bind fun a13 => (wI t11 a13 (t11.1 x0 26) (0 : Int32)).bind fun t15 => (hk_R x0 14).bind fun a17 => (wI t15 a17 (t15.1 x0 26) (0 : Int32)).bind fun t19 => (hk_R x0 16).bind fun a21 => (wB t19 a21 (t19.1 x0 26) (0 : Int32)).bind fun t23 => (hk_R x0 17).bind fun a25 => (wB t23 a25 (t23.1 x0 26) (0 : Int32)).bind fun t27 => (hk_R x0 18).bind fun a29 => (wB t27 a29 (t27.1 x0 26) (0 : Int32)).bind fun t31 => (f179 x0 t31).bind fun z33 => whl (fun q : (xS) => f187_88 x0 q) z33.1
set_option maxRecDepth 20000 in
theorem s187 {sc : Option (Nat × (Nat → Int32))} {x0 : Nat} {s : xS} {r : xS × Int32} (h : f187 x0 s = some r) : Cl sc 6 187 [.ref x0] (hk_of s) (hk_of r.1, some (.int r.2)) := by
  unfold f187 at h
  obtain ⟨k0, h⟩ := ifg_some h
  refine ⟨pg_md 187, [some (.ref x0), none], pg_mt_md (by decide), (hk_rcv k0), rfl, ?_⟩
  generalize ho : ((hk_of r.1, some (Value.int r.2)) : xH × Option Value) = o
  have hr : dn187 o r := ho.symm
  refine E_blk rfl ?_
  refine E_ps 1 (pc' := 1) (l' := [some (.ref x0), none]) (st' := [.ref x0]) rfl ?_
  obtain ⟨z1, e2, h⟩ := Option.bind_eq_some_iff.mp h
  refine E_callV (vs := [.ref x0]) (rest := []) rfl (by decide) rfl rfl (Nat.le_of_ble_eq_true rfl) (s186 e2) (by decide) ?_
  refine E_ps 3 (pc' := 7) (l' := [some (.ref x0), none]) (st' := [.ref x0, .int (1 : Int32), .ref x0]) rfl ?_
  refine E_gi k0 (by decide) rfl ?_
  refine E_ps 1 (pc' := 11) (l' := [some (.ref x0), none]) (st' := [.int ((1 : Int32) - (z1.1.1 x0 25)), .ref x0]) rfl ?_
  obtain ⟨t3, e4, h⟩ := Option.bind_eq_some_iff.mp h
  refine E_pi k0 (by decide) rfl e4 ?_
  refine E_ps 1 (pc' := 15) (l' := [some (.ref x0), none]) (st' := [.ref x0]) rfl ?_
  obtain ⟨a5, e6, h⟩ := Option.bind_eq_some_iff.mp h
  refine E_gr k0 (by decide) rfl e6 ?_
  refine E_ps 1 (pc' := 19) (l' := [some (.ref x0), none]) (st' := [.ref x0, .ref a5]) rfl ?_
  refine E_gi k0 (by decide) rfl ?_
  refine E_ps 1 (pc' := 23) (l' := [some (.ref x0), none]) (st' := [.int (3 : Int32), .int (t3.1 x0 26), .ref a5]) rfl ?_
  obtain ⟨t7, e8, h⟩ := Option.bind_eq_some_iff.mp h
  refine E_wi e8 ?_
  refine E_ps 1 (pc' := 25) (l' := [some (.ref x0), none]) (st' := [.ref x0]) rfl ?_
  obtain ⟨a9, e10, h⟩ := Option.bind_eq_some_iff.mp h
  refine E_gr k0 (by decide) rfl e10 ?_
  refine E_ps 1 (pc' := 29) (l' := [some (.ref x0), none]) (st' := [.ref x0, .ref a9]) rfl ?_
  refine E_gi k0 (by decide) rfl ?_
  refine E_ps 1 (pc' := 33) (l' := [some (.ref x0), none]) (st' := [.int (0 : Int32), .int (t7.1 x0 26), .ref a9]) rfl ?_
  obtain ⟨t11, e12, h⟩ := Option.bind_eq_some_iff.mp h
  refine E_wi e12 ?_
  refine E_ps 1 (pc' := 35) (l' := [some (.ref x0), none]) (st' := [.ref x0]) rfl ?_
  obtain ⟨a13, e14, h⟩ := Option.bind_eq_some_iff.mp h
  refine E_gr k0 (by decide) rfl e14 ?_
  refine E_ps 1 (pc' := 39) (l' := [some (.ref x0), none]) (st' := [.ref x0, .ref a13]) rfl ?_
  refine E_gi k0 (by decide) rfl ?_
  refine E_ps 1 (pc' := 43) (l' := [some (.ref x0), none]) (st' := [.int (0 : Int32), .int (t11.1 x0 26), .ref a13]) rfl ?_
  obtain ⟨t15, e16, h⟩ := Option.bind_eq_some_iff.mp h
  refine E_wi e16 ?_
  refine E_ps 1 (pc' := 45) (l' := [some (.ref x0), none]) (st' := [.ref x0]) rfl ?_
  obtain ⟨a17, e18, h⟩ := Option.bind_eq_some_iff.mp h
  refine E_gr k0 (by decide) rfl e18 ?_
  refine E_ps 1 (pc' := 49) (l' := [some (.ref x0), none]) (st' := [.ref x0, .ref a17]) rfl ?_
  refine E_gi k0 (by decide) rfl ?_
  refine E_ps 1 (pc' := 53) (l' := [some (.ref x0), none]) (st' := [.int (0 : Int32), .int (t15.1 x0 26), .ref a17]) rfl ?_
  obtain ⟨t19, e20, h⟩ := Option.bind_eq_some_iff.mp h
  refine E_wi e20 ?_
  refine E_ps 1 (pc' := 55) (l' := [some (.ref x0), none]) (st' := [.ref x0]) rfl ?_
  obtain ⟨a21, e22, h⟩ := Option.bind_eq_some_iff.mp h
  refine E_gr k0 (by decide) rfl e22 ?_
  refine E_ps 1 (pc' := 59) (l' := [some (.ref x0), none]) (st' := [.ref x0, .ref a21]) rfl ?_
  refine E_gi k0 (by decide) rfl ?_
  refine E_ps 1 (pc' := 63) (l' := [some (.ref x0), none]) (st' := [.int (0 : Int32), .int (t19.1 x0 26), .ref a21]) rfl ?_
  obtain ⟨t23, e24, h⟩ := Option.bind_eq_some_iff.mp h
  refine E_wb e24 ?_
  refine E_ps 1 (pc' := 65) (l' := [some (.ref x0), none]) (st' := [.ref x0]) rfl ?_
  obtain ⟨a25, e26, h⟩ := Option.bind_eq_some_iff.mp h
  refine E_gr k0 (by decide) rfl e26 ?_
  refine E_ps 1 (pc' := 69) (l' := [some (.ref x0), none]) (st' := [.ref x0, .ref a25]) rfl ?_
  refine E_gi k0 (by decide) rfl ?_
  refine E_ps 1 (pc' := 73) (l' := [some (.ref x0), none]) (st' := [.int (0 : Int32), .int (t23.1 x0 26), .ref a25]) rfl ?_
  obtain ⟨t27, e28, h⟩ := Option.bind_eq_some_iff.mp h
  refine E_wb e28 ?_
  refine E_ps 1 (pc' := 75) (l' := [some (.ref x0), none]) (st' := [.ref x0]) rfl ?_
  obtain ⟨a29, e30, h⟩ := Option.bind_eq_some_iff.mp h
  refine E_gr k0 (by decide) rfl e30 ?_
  refine E_ps 1 (pc' := 79) (l' := [some (.ref x0), none]) (st' := [.ref x0, .ref a29]) rfl ?_
  refine E_gi k0 (by decide) rfl ?_
  refine E_ps 1 (pc' := 83) (l' := [some (.ref x0), none]) (st' := [.int (0 : Int32), .int (t27.1 x0 26), .ref a29]) rfl ?_
  obtain ⟨t31, e32, h⟩ := Option.bind_eq_some_iff.mp h
  refine E_wb e32 ?_
  refine E_ps 1 (pc' := 85) (l' := [some (.ref x0), none]) (st' := [.ref x0]) rfl ?_
  obtain ⟨z33, e34, h⟩ := Option.bind_eq_some_iff.mp h
  refine E_callV (vs := [.ref x0]) (rest := []) rfl (by decide) rfl rfl (Nat.le_of_ble_eq_true rfl) (s179 e34) (by decide) ?_
  exact E_wk (l' := [some (.ref x0), none]) ⟨rfl, trivial⟩ (s187_88_w k0 h hr)

-- 191: ThreePlatesModel.fault(I)I
def dn191 (o : xH × Option Value) (r : xS × Int32) : Prop := o = (hk_of r.1, some (.int r.2))
noncomputable def f191_24 (y0 : Int32) (s : xS) : Option (xS × Int32) := some (s, y0)
set_option maxRecDepth 20000 in
theorem s191_24 {sc : Option (Nat × (Nat → Int32))} {y0 : Int32} {s : xS} {o : xH × Option Value} {r : (xS × Int32)}  (h : f191_24 y0 s = some r) (hr : dn191 o r) : Ev sc 1 191 [] 24 [none, none] [.int y0] (hk_of s) o := by
  unfold f191_24 at h
  refine E_blk rfl ?_
  cases h
  exact E_ret rfl (pg_mt_md (by decide)) rfl hr
noncomputable def f191 (x0 : Nat) (x1 : Int32) (s : xS) : Option (xS × Int32) := ifg (oK x0 12 = true) <| if x1 = 0 then (f191_24 (s.1 x0 4) s) else (if x1 = (1 : Int32) then (f191_24 (s.1 x0 5) s) else (f191_24 (-1 : Int32) s))
set_option maxRecDepth 20000 in
theorem s191 {sc : Option (Nat × (Nat → Int32))} {x0 : Nat} {x1 : Int32} {s : xS} {r : xS × Int32} (h : f191 x0 x1 s = some r) : Cl sc 1 191 [.ref x0, .int x1] (hk_of s) (hk_of r.1, some (.int r.2)) := by
  unfold f191 at h
  obtain ⟨k0, h⟩ := ifg_some h
  refine ⟨pg_md 191, [some (.ref x0), some (.int x1)], pg_mt_md (by decide), (hk_rcv k0), rfl, ?_⟩
  generalize ho : ((hk_of r.1, some (Value.int r.2)) : xH × Option Value) = o
  have hr : dn191 o r := ho.symm
  refine E_blk rfl ?_
  refine E_ps 1 (pc' := 1) (l' := [some (.ref x0), some (.int x1)]) (st' := [.int x1]) rfl ?_
  by_cases c1 : x1 = 0
  · rw [if_pos c1] at h
    refine E_jt rfl rfl c1 ?_
    refine E_blk rfl ?_
    refine E_ps 1 (pc' := 5) (l' := [some (.ref x0), some (.int x1)]) (st' := [.ref x0]) rfl ?_
    refine E_gi k0 (by decide) rfl ?_
    refine E_j rfl rfl ?_
    exact E_wk (l' := [none, none]) trivial (s191_24  h hr)
  · rw [if_neg c1] at h
    refine E_jf rfl rfl c1 ?_
    refine E_blk rfl ?_
    refine E_ps 2 (pc' := 13) (l' := [some (.ref x0), some (.int x1)]) (st' := [.int (1 : Int32), .int x1]) rfl ?_
    by_cases c2 : x1 = (1 : Int32)
    · rw [if_pos c2] at h
      refine E_jt rfl rfl c2 ?_
      refine E_blk rfl ?_
      refine E_ps 1 (pc' := 17) (l' := [some (.ref x0), some (.int x1)]) (st' := [.ref x0]) rfl ?_
      refine E_gi k0 (by decide) rfl ?_
      refine E_j rfl rfl ?_
      exact E_wk (l' := [none, none]) trivial (s191_24  h hr)
    · rw [if_neg c2] at h
      refine E_jf rfl rfl c2 ?_
      refine E_blk rfl ?_
      refine E_ps 1 (pc' := 24) (l' := [some (.ref x0), some (.int x1)]) (st' := [.int (-1 : Int32)]) rfl ?_
      exact E_wk (l' := [none, none]) trivial (s191_24  h hr)

-- 193: ThreePlatesModel.aPlate(I)I
def dn193 (o : xH × Option Value) (r : xS × Int32) : Prop := o = (hk_of r.1, some (.int r.2))
noncomputable def f193_75 (y0 : Int32) (s : xS) : Option (xS × Int32) := some (s, y0)
set_option maxRecDepth 20000 in
theorem s193_75 {sc : Option (Nat × (Nat → Int32))} {y0 : Int32} {s : xS} {o : xH × Option Value} {r : (xS × Int32)}  (h : f193_75 y0 s = some r) (hr : dn193 o r) : Ev sc 3 193 [] 75 [none, none, none] [.int y0] (hk_of s) o := by
  unfold f193_75 at h
  refine E_blk rfl ?_
  cases h
  exact E_ret rfl (pg_mt_md (by decide)) rfl hr
noncomputable def f193_66 (x2 : Int32) (s : xS) : Option (xS × Int32) := if 0 ≤ x2 then (f193_75 x2 s) else (f193_75 (0 : Int32) s)
set_option maxRecDepth 20000 in
theorem s193_66 {sc : Option (Nat × (Nat → Int32))} {x2 : Int32} {s : xS} {o : xH × Option Value} {r : (xS × Int32)}  (h : f193_66 x2 s = some r) (hr : dn193 o r) : Ev sc 3 193 [] 66 [none, none, some (.int x2)] [] (hk_of s) o := by
  unfold f193_66 at h
  refine E_blk rfl ?_
  refine E_ps 1 (pc' := 67) (l' := [none, none, some (.int x2)]) (st' := [.int x2]) rfl ?_
  by_cases c1 : 0 ≤ x2
  · rw [if_pos c1] at h
    refine E_jt rfl rfl c1 ?_
    refine E_blk rfl ?_
    refine E_ps 1 (pc' := 75) (l' := [none, none, some (.int x2)]) (st' := [.int x2]) rfl ?_
    exact E_wk (l' := [none, none, none]) trivial (s193_75  h hr)
  · rw [if_neg c1] at h
    refine E_jf rfl rfl c1 ?_
    refine E_blk rfl ?_
    refine E_ps 1 (pc' := 71) (l' := [none, none, some (.int x2)]) (st' := [.int (0 : Int32)]) rfl ?_
    refine E_j rfl rfl ?_
    exact E_wk (l' := [none, none, none]) trivial (s193_75  h hr)
noncomputable def f193_55 (x0 : Nat) (x2 : Int32) (s : xS) : Option (xS × Int32) := (f177 x0 s).bind fun z1 => if z1.2 = 0 then (f193_66 x2 z1.1) else ((f179 x0 z1.1).bind fun z4 => f193_66 x2 z4.1)
set_option maxRecDepth 20000 in
theorem s193_55 {sc : Option (Nat × (Nat → Int32))} {x0 : Nat} {x2 : Int32} {s : xS} {o : xH × Option Value} {r : (xS × Int32)} (k0 : oK x0 12 = true) (h : f193_55 x0 x2 s = some r) (hr : dn193 o r) : Ev sc 3 193 [] 55 [some (.ref x0), none, some (.int x2)] [] (hk_of s) o := by
  unfold f193_55 at h
  refine E_blk rfl ?_
  refine E_ps 1 (pc' := 56) (l' := [some (.ref x0), none, some (.int x2)]) (st' := [.ref x0]) rfl ?_
  obtain ⟨z1, e2, h⟩ := Option.bind_eq_some_iff.mp h
  refine E_callI (vs := [.ref x0]) (rest := []) rfl (by decide) rfl rfl (Nat.le_of_ble_eq_true rfl) (s177 e2) (by decide) ?_
  by_cases c3 : z1.2 = 0
  · rw [if_pos c3] at h
    refine E_jt rfl rfl c3 ?_
    exact E_wk (l' := [none, none, some (.int x2)]) ⟨rfl, trivial⟩ (s193_66  h hr)
  · rw [if_neg c3] at h
    refine E_jf rfl rfl c3 ?_
    refine E_blk rfl ?_
    refine E_ps 1 (pc' := 63) (l' := [some (.ref x0), none, some (.int x2)]) (st' := [.ref x0]) rfl ?_
    obtain ⟨z4, e5, h⟩ := Option.bind_eq_some_iff.mp h
    refine E_callV (vs := [.ref x0]) (rest := []) rfl (by decide) rfl rfl (Nat.le_of_ble_eq_true rfl) (s179 e5) (by decide) ?_
    exact E_wk (l' := [none, none, some (.int x2)]) ⟨rfl, trivial⟩ (s193_66  h hr)
noncomputable def f193_46 (x0 : Nat) (x2 : Int32) (s : xS) : Option (xS × Int32) := (f176 x0 (5 : Int32) (s.1 x0 6) s).bind fun z1 => f193_55 x0 x2 z1.1
set_option maxRecDepth 20000 in
theorem s193_46 {sc : Option (Nat × (Nat → Int32))} {x0 : Nat} {x2 : Int32} {s : xS} {o : xH × Option Value} {r : (xS × Int32)} (k0 : oK x0 12 = true) (h : f193_46 x0 x2 s = some r) (hr : dn193 o r) : Ev sc 3 193 [] 46 [some (.ref x0), none, some (.int x2)] [] (hk_of s) o := by
  unfold f193_46 at h
  refine E_blk rfl ?_
  refine E_ps 3 (pc' := 49) (l' := [some (.ref x0), none, some (.int x2)]) (st' := [.ref x0, .int (5 : Int32), .ref x0]) rfl ?_
  refine E_gi k0 (by decide) rfl ?_
  obtain ⟨z1, e2, h⟩ := Option.bind_eq_some_iff.mp h
  refine E_callV (vs := [.ref x0, .int (5 : Int32), .int (s.1 x0 6)]) (rest := []) rfl (by decide) rfl rfl (Nat.le_of_ble_eq_true rfl) (s176 e2) (by decide) ?_
  exact E_wk (l' := [some (.ref x0), none, some (.int x2)]) ⟨rfl, rfl, trivial⟩ (s193_55 k0 h hr)
noncomputable def f193 (x0 : Nat) (x1 : Int32) (s : xS) : Option (xS × Int32) := ifg (oK x0 12 = true) <| (f177 x0 s).bind fun z1 => if z1.2 = 0 then (some (z1.1, (0 : Int32))) else ((f189 x0 (z1.1.1 x0 25) z1.1).bind fun z4 => if (z4.1.1 x0 8) = (2 : Int32) then (if z4.2 < 0 then (f193_46 x0 z4.2 z4.1) else (if ((x1 >>> (z4.2 &&& 31)) &&& (1 : Int32)) = (1 : Int32) then (f193_46 x0 z4.2 z4.1) else (f193_55 x0 z4.2 z4.1))) else ((f182 x0 z4.1).bind fun z9 => f193_55 x0 z4.2 z9.1))
set_option maxRecDepth 20000 in
theorem s193 {sc : Option (Nat × (Nat → Int32))} {x0 : Nat} {x1 : Int32} {s : xS} {r : xS × Int32} (h : f193 x0 x1 s = some r) : Cl sc 3 193 [.ref x0, .int x1] (hk_of s) (hk_of r.1, some (.int r.2)) := by
  unfold f193 at h
  obtain ⟨k0, h⟩ := ifg_some h
  refine ⟨pg_md 193, [some (.ref x0), some (.int x1), none], pg_mt_md (by decide), (hk_rcv k0), rfl, ?_⟩
  generalize ho : ((hk_of r.1, some (Value.int r.2)) : xH × Option Value) = o
  have hr : dn193 o r := ho.symm
  refine E_blk rfl ?_
  refine E_ps 1 (pc' := 1) (l' := [some (.ref x0), some (.int x1), none]) (st' := [.ref x0]) rfl ?_
  obtain ⟨z1, e2, h⟩ := Option.bind_eq_some_iff.mp h
  refine E_callI (vs := [.ref x0]) (rest := []) rfl (by decide) rfl rfl (Nat.le_of_ble_eq_true rfl) (s177 e2) (by decide) ?_
  by_cases c3 : z1.2 = 0
  · rw [if_pos c3] at h
    refine E_jt rfl rfl c3 ?_
    refine E_blk rfl ?_
    refine E_ps 1 (pc' := 8) (l' := [some (.ref x0), some (.int x1), none]) (st' := [.int (0 : Int32)]) rfl ?_
    cases h
    exact E_ret rfl (pg_mt_md (by decide)) rfl hr
  · rw [if_neg c3] at h
    refine E_jf rfl rfl c3 ?_
    refine E_blk rfl ?_
    refine E_ps 2 (pc' := 11) (l' := [some (.ref x0), some (.int x1), none]) (st' := [.ref x0, .ref x0]) rfl ?_
    refine E_gi k0 (by decide) rfl ?_
    obtain ⟨z4, e5, h⟩ := Option.bind_eq_some_iff.mp h
    refine E_callI (vs := [.ref x0, .int (z1.1.1 x0 25)]) (rest := []) rfl (by decide) rfl rfl (Nat.le_of_ble_eq_true rfl) (s189 e5) (by decide) ?_
    refine E_ps 2 (pc' := 19) (l' := [some (.ref x0), some (.int x1), some (.int z4.2)]) (st' := [.ref x0]) rfl ?_
    refine E_gi k0 (by decide) rfl ?_
    refine E_ps 1 (pc' := 23) (l' := [some (.ref x0), some (.int x1), some (.int z4.2)]) (st' := [.int (2 : Int32), .int (z4.1.1 x0 8)]) rfl ?_
    by_cases c6 : (z4.1.1 x0 8) = (2 : Int32)
    · rw [if_pos c6] at h
      refine E_jt rfl rfl c6 ?_
      refine E_blk rfl ?_
      refine E_ps 1 (pc' := 34) (l' := [some (.ref x0), some (.int x1), some (.int z4.2)]) (st' := [.int z4.2]) rfl ?_
      by_cases c7 : z4.2 < 0
      · rw [if_pos c7] at h
        refine E_jt rfl rfl c7 ?_
        exact E_wk (l' := [some (.ref x0), none, some (.int z4.2)]) ⟨rfl, rfl, trivial⟩ (s193_46 k0 h hr)
      · rw [if_neg c7] at h
        refine E_jf rfl rfl c7 ?_
        refine E_blk rfl ?_
        refine E_ps 6 (pc' := 43) (l' := [some (.ref x0), some (.int x1), some (.int z4.2)]) (st' := [.int (1 : Int32), .int ((x1 >>> (z4.2 &&& 31)) &&& (1 : Int32))]) rfl ?_
        by_cases c8 : ((x1 >>> (z4.2 &&& 31)) &&& (1 : Int32)) = (1 : Int32)
        · rw [if_pos c8] at h
          refine E_jt rfl rfl c8 ?_
          exact E_wk (l' := [some (.ref x0), none, some (.int z4.2)]) ⟨rfl, rfl, trivial⟩ (s193_46 k0 h hr)
        · rw [if_neg c8] at h
          refine E_jf rfl rfl c8 ?_
          exact E_wk (l' := [some (.ref x0), none, some (.int z4.2)]) ⟨rfl, rfl, trivial⟩ (s193_55 k0 h hr)
    · rw [if_neg c6] at h
      refine E_jf rfl rfl c6 ?_
      refine E_blk rfl ?_
      refine E_ps 1 (pc' := 27) (l' := [some (.ref x0), some (.int x1), some (.int z4.2)]) (st' := [.ref x0]) rfl ?_
      obtain ⟨z9, e10, h⟩ := Option.bind_eq_some_iff.mp h
      refine E_callV (vs := [.ref x0]) (rest := []) rfl (by decide) rfl rfl (Nat.le_of_ble_eq_true rfl) (s182 e10) (by decide) ?_
      refine E_j rfl rfl ?_
      exact E_wk (l' := [some (.ref x0), none, some (.int z4.2)]) ⟨rfl, rfl, trivial⟩ (s193_55 k0 h hr)

-- 194: ThreePlatesModel.readRound()V
def dn194 (o : xH × Option Value) (r : xS × Unit) : Prop := o = (hk_of r.1, none)
noncomputable def f194_165 (x0 : Nat) (x1 : Int32) (s : xS) : Option (xS × Unit) := (f181 x0 (126870957944933 : Int64) s).bind fun z1 => (f183 x0 z1.2 z1.1).bind fun z3 => (hk_R x0 35).bind fun a5 => (hk_R x0 30).bind fun a7 => (aI z3.1 a7 x1).bind fun v9 => (hk_R x0 31).bind fun a11 => (aI z3.1 a11 x1).bind fun v13 => (f193 x0 ((15 : Int32) &&& ((((1 : Int32) <<< (v9 &&& 31)) ||| ((1 : Int32) <<< (v13 &&& 31))) ^^^ (-1 : Int32))) z3.1).bind fun z15 => (wI z15.1 a5 x1 z15.2).bind fun t17 => (f181 x0 (1684366704 : Int64) t17).bind fun z19 => (f183 x0 z19.2 z19.1).bind fun z21 => (hk_R x0 36).bind fun a23 => (f184 x0 (1 : Int32) (9 : Int32) z21.1).bind fun z25 => (wI z25.1 a23 x1 z25.2).bind fun t27 => (f180 x0 (59 : Int32) t27).bind fun z29 => (f183 x0 z29.2 z29.1).bind fun z31 => (pI z31.1 x0 38 ((z31.1.1 x0 38) + (1 : Int32))).bind fun t33 => some (t33, ())
set_option maxRecDepth 20000 in
theorem s194_165 {sc : Option (Nat × (Nat → Int32))} {x0 : Nat} {x1 : Int32} {s : xS} {o : xH × Option Value} {r : (xS × Unit)} (k0 : oK x0 12 = true) (h : f194_165 x0 x1 s = some r) (hr : dn194 o r) : Ev sc 4 194 [] 165 [some (.ref x0), some (.int x1)] [] (hk_of s) o := by
  unfold f194_165 at h
  refine E_blk rfl ?_
  refine E_ps 3 (pc' := 170) (l' := [some (.ref x0), some (.int x1)]) (st' := [.long (126870957944933 : Int64), .ref x0, .ref x0]) rfl ?_
  obtain ⟨z1, e2, h⟩ := Option.bind_eq_some_iff.mp h
  refine E_callI (vs := [.ref x0, .long (126870957944933 : Int64)]) (rest := [.ref x0]) rfl (by decide) rfl rfl (Nat.le_of_ble_eq_true rfl) (s181 e2) (by decide) ?_
  obtain ⟨z3, e4, h⟩ := Option.bind_eq_some_iff.mp h
  refine E_callV (vs := [.ref x0, .int z1.2]) (rest := []) rfl (by decide) rfl rfl (Nat.le_of_ble_eq_true rfl) (s183 e4) (by decide) ?_
  refine E_ps 1 (pc' := 177) (l' := [some (.ref x0), some (.int x1)]) (st' := [.ref x0]) rfl ?_
  obtain ⟨a5, e6, h⟩ := Option.bind_eq_some_iff.mp h
  refine E_gr k0 (by decide) rfl e6 ?_
  refine E_ps 5 (pc' := 186) (l' := [some (.ref x0), some (.int x1)]) (st' := [.ref x0, .int (1 : Int32), .int (15 : Int32), .ref x0, .int x1, .ref a5]) rfl ?_
  obtain ⟨a7, e8, h⟩ := Option.bind_eq_some_iff.mp h
  refine E_gr k0 (by decide) rfl e8 ?_
  refine E_ps 1 (pc' := 190) (l' := [some (.ref x0), some (.int x1)]) (st' := [.int x1, .ref a7, .int (1 : Int32), .int (15 : Int32), .ref x0, .int x1, .ref a5]) rfl ?_
  obtain ⟨v9, e10, h⟩ := Option.bind_eq_some_iff.mp h
  refine E_ai e10 ?_
  refine E_ps 3 (pc' := 194) (l' := [some (.ref x0), some (.int x1)]) (st' := [.ref x0, .int (1 : Int32), .int ((1 : Int32) <<< (v9 &&& 31)), .int (15 : Int32), .ref x0, .int x1, .ref a5]) rfl ?_
  obtain ⟨a11, e12, h⟩ := Option.bind_eq_some_iff.mp h
  refine E_gr k0 (by decide) rfl e12 ?_
  refine E_ps 1 (pc' := 198) (l' := [some (.ref x0), some (.int x1)]) (st' := [.int x1, .ref a11, .int (1 : Int32), .int ((1 : Int32) <<< (v9 &&& 31)), .int (15 : Int32), .ref x0, .int x1, .ref a5]) rfl ?_
  obtain ⟨v13, e14, h⟩ := Option.bind_eq_some_iff.mp h
  refine E_ai e14 ?_
  refine E_ps 5 (pc' := 204) (l' := [some (.ref x0), some (.int x1)]) (st' := [.int ((15 : Int32) &&& ((((1 : Int32) <<< (v9 &&& 31)) ||| ((1 : Int32) <<< (v13 &&& 31))) ^^^ (-1 : Int32))), .ref x0, .int x1, .ref a5]) rfl ?_
  obtain ⟨z15, e16, h⟩ := Option.bind_eq_some_iff.mp h
  refine E_callI (vs := [.ref x0, .int ((15 : Int32) &&& ((((1 : Int32) <<< (v9 &&& 31)) ||| ((1 : Int32) <<< (v13 &&& 31))) ^^^ (-1 : Int32)))]) (rest := [.int x1, .ref a5]) rfl (by decide) rfl rfl (Nat.le_of_ble_eq_true rfl) (s193 e16) (by decide) ?_
  obtain ⟨t17, e18, h⟩ := Option.bind_eq_some_iff.mp h
  refine E_wi e18 ?_
  refine E_ps 3 (pc' := 213) (l' := [some (.ref x0), some (.int x1)]) (st' := [.long (1684366704 : Int64), .ref x0, .ref x0]) rfl ?_
  obtain ⟨z19, e20, h⟩ := Option.bind_eq_some_iff.mp h
  refine E_callI (vs := [.ref x0, .long (1684366704 : Int64)]) (rest := [.ref x0]) rfl (by decide) rfl rfl (Nat.le_of_ble_eq_true rfl) (s181 e20) (by decide) ?_
  obtain ⟨z21, e22, h⟩ := Option.bind_eq_some_iff.mp h
  refine E_callV (vs := [.ref x0, .int z19.2]) (rest := []) rfl (by decide) rfl rfl (Nat.le_of_ble_eq_true rfl) (s183 e22) (by decide) ?_
  refine E_ps 1 (pc' := 220) (l' := [some (.ref x0), some (.int x1)]) (st' := [.ref x0]) rfl ?_
  obtain ⟨a23, e24, h⟩ := Option.bind_eq_some_iff.mp h
  refine E_gr k0 (by decide) rfl e24 ?_
  refine E_ps 4 (pc' := 228) (l' := [some (.ref x0), some (.int x1)]) (st' := [.int (9 : Int32), .int (1 : Int32), .ref x0, .int x1, .ref a23]) rfl ?_
  obtain ⟨z25, e26, h⟩ := Option.bind_eq_some_iff.mp h
  refine E_callI (vs := [.ref x0, .int (1 : Int32), .int (9 : Int32)]) (rest := [.int x1, .ref a23]) rfl (by decide) rfl rfl (Nat.le_of_ble_eq_true rfl) (s184 e26) (by decide) ?_
  obtain ⟨t27, e28, h⟩ := Option.bind_eq_some_iff.mp h
  refine E_wi e28 ?_
  refine E_ps 3 (pc' := 236) (l' := [some (.ref x0), some (.int x1)]) (st' := [.int (59 : Int32), .ref x0, .ref x0]) rfl ?_
  obtain ⟨z29, e30, h⟩ := Option.bind_eq_some_iff.mp h
  refine E_callI (vs := [.ref x0, .int (59 : Int32)]) (rest := [.ref x0]) rfl (by decide) rfl rfl (Nat.le_of_ble_eq_true rfl) (s180 e30) (by decide) ?_
  obtain ⟨z31, e32, h⟩ := Option.bind_eq_some_iff.mp h
  refine E_callV (vs := [.ref x0, .int z29.2]) (rest := []) rfl (by decide) rfl rfl (Nat.le_of_ble_eq_true rfl) (s183 e32) (by decide) ?_
  refine E_ps 2 (pc' := 244) (l' := [some (.ref x0), some (.int x1)]) (st' := [.ref x0, .ref x0]) rfl ?_
  refine E_gi k0 (by decide) rfl ?_
  refine E_ps 2 (pc' := 249) (l' := [some (.ref x0), some (.int x1)]) (st' := [.int ((z31.1.1 x0 38) + (1 : Int32)), .ref x0]) rfl ?_
  obtain ⟨t33, e34, h⟩ := Option.bind_eq_some_iff.mp h
  refine E_pi k0 (by decide) rfl e34 ?_
  cases h
  exact E_ret rfl (pg_mt_md (by decide)) rfl hr
noncomputable def f194_23 (x0 : Nat) (s : xS) : Option (xS × Unit) := (f177 x0 s).bind fun z1 => if z1.2 = 0 then (some (z1.1, ())) else ((f179 x0 z1.1).bind fun z4 => (hk_R x0 30).bind fun a6 => (f193 x0 (0 : Int32) z4.1).bind fun z8 => (wI z8.1 a6 ((10 : Int32) + (z1.1.1 x0 38)) z8.2).bind fun t10 => (f181 x0 (28526 : Int64) t10).bind fun z12 => (f183 x0 z12.2 z12.1).bind fun z14 => (hk_R x0 31).bind fun a16 => (hk_R x0 30).bind fun a18 => (aI z14.1 a18 ((10 : Int32) + (z1.1.1 x0 38))).bind fun v20 => (f193 x0 ((1 : Int32) <<< (v20 &&& 31)) z14.1).bind fun z22 => (wI z22.1 a16 ((10 : Int32) + (z1.1.1 x0 38)) z22.2).bind fun t24 => (f181 x0 (1953854062 : Int64) t24).bind fun z26 => (f183 x0 z26.2 z26.1).bind fun z28 => (hk_R x0 32).bind fun a30 => (f184 x0 (0 : Int32) (3 : Int32) z28.1).bind fun z32 => (wI z32.1 a30 ((10 : Int32) + (z1.1.1 x0 38)) z32.2).bind fun t34 => (hk_R x0 33).bind fun a36 => (wI t34 a36 ((10 : Int32) + (z1.1.1 x0 38)) (0 : Int32)).bind fun t38 => (hk_R x0 34).bind fun a40 => (wI t38 a40 ((10 : Int32) + (z1.1.1 x0 38)) (0 : Int32)).bind fun t42 => (f177 x0 t42).bind fun z44 => if z44.2 = 0 then (f194_165 x0 ((10 : Int32) + (z1.1.1 x0 38)) z44.1) else ((f181 x0 (25209 : Int64) z44.1).bind fun z47 => if z47.2 = 0 then (f194_165 x0 ((10 : Int32) + (z1.1.1 x0 38)) z47.1) else ((f179 x0 z47.1).bind fun z50 => (hk_R x0 33).bind fun a52 => (f185 x0 (-1 : Int32) (1 : Int32) z50.1).bind fun z54 => (wI z54.1 a52 ((10 : Int32) + (z1.1.1 x0 38)) z54.2).bind fun t56 => (hk_R x0 34).bind fun a58 => (f185 x0 (-1 : Int32) (1 : Int32) t56).bind fun z60 => (wI z60.1 a58 ((10 : Int32) + (z1.1.1 x0 38)) z60.2).bind fun t62 => f194_165 x0 ((10 : Int32) + (z1.1.1 x0 38)) t62)))
set_option maxRecDepth 20000 in
theorem s194_23 {sc : Option (Nat × (Nat → Int32))} {x0 : Nat} {s : xS} {o : xH × Option Value} {r : (xS × Unit)} (k0 : oK x0 12 = true) (h : f194_23 x0 s = some r) (hr : dn194 o r) : Ev sc 4 194 [] 23 [some (.ref x0), none] [] (hk_of s) o := by
  unfold f194_23 at h
  refine E_blk rfl ?_
  refine E_ps 1 (pc' := 24) (l' := [some (.ref x0), none]) (st' := [.ref x0]) rfl ?_
  obtain ⟨z1, e2, h⟩ := Option.bind_eq_some_iff.mp h
  refine E_callI (vs := [.ref x0]) (rest := []) rfl (by decide) rfl rfl (Nat.le_of_ble_eq_true rfl) (s177 e2) (by decide) ?_
  by_cases c3 : z1.2 = 0
  · rw [if_pos c3] at h
    refine E_jt rfl rfl c3 ?_
    refine E_blk rfl ?_
    cases h
    exact E_ret rfl (pg_mt_md (by decide)) rfl hr
  · rw [if_neg c3] at h
    refine E_jf rfl rfl c3 ?_
    refine E_blk rfl ?_
    refine E_ps 2 (pc' := 34) (l' := [some (.ref x0), none]) (st' := [.ref x0, .int (10 : Int32)]) rfl ?_
    refine E_gi k0 (by decide) rfl ?_
    refine E_ps 3 (pc' := 40) (l' := [some (.ref x0), some (.int ((10 : Int32) + (z1.1.1 x0 38)))]) (st' := [.ref x0]) rfl ?_
    obtain ⟨z4, e5, h⟩ := Option.bind_eq_some_iff.mp h
    refine E_callV (vs := [.ref x0]) (rest := []) rfl (by decide) rfl rfl (Nat.le_of_ble_eq_true rfl) (s179 e5) (by decide) ?_
    refine E_ps 1 (pc' := 44) (l' := [some (.ref x0), some (.int ((10 : Int32) + (z1.1.1 x0 38)))]) (st' := [.ref x0]) rfl ?_
    obtain ⟨a6, e7, h⟩ := Option.bind_eq_some_iff.mp h
    refine E_gr k0 (by decide) rfl e7 ?_
    refine E_ps 3 (pc' := 50) (l' := [some (.ref x0), some (.int ((10 : Int32) + (z1.1.1 x0 38)))]) (st' := [.int (0 : Int32), .ref x0, .int ((10 : Int32) + (z1.1.1 x0 38)), .ref a6]) rfl ?_
    obtain ⟨z8, e9, h⟩ := Option.bind_eq_some_iff.mp h
    refine E_callI (vs := [.ref x0, .int (0 : Int32)]) (rest := [.int ((10 : Int32) + (z1.1.1 x0 38)), .ref a6]) rfl (by decide) rfl rfl (Nat.le_of_ble_eq_true rfl) (s193 e9) (by decide) ?_
    obtain ⟨t10, e11, h⟩ := Option.bind_eq_some_iff.mp h
    refine E_wi e11 ?_
    refine E_ps 3 (pc' := 59) (l' := [some (.ref x0), some (.int ((10 : Int32) + (z1.1.1 x0 38)))]) (st' := [.long (28526 : Int64), .ref x0, .ref x0]) rfl ?_
    obtain ⟨z12, e13, h⟩ := Option.bind_eq_some_iff.mp h
    refine E_callI (vs := [.ref x0, .long (28526 : Int64)]) (rest := [.ref x0]) rfl (by decide) rfl rfl (Nat.le_of_ble_eq_true rfl) (s181 e13) (by decide) ?_
    obtain ⟨z14, e15, h⟩ := Option.bind_eq_some_iff.mp h
    refine E_callV (vs := [.ref x0, .int z12.2]) (rest := []) rfl (by decide) rfl rfl (Nat.le_of_ble_eq_true rfl) (s183 e15) (by decide) ?_
    refine E_ps 1 (pc' := 66) (l' := [some (.ref x0), some (.int ((10 : Int32) + (z1.1.1 x0 38)))]) (st' := [.ref x0]) rfl ?_
    obtain ⟨a16, e17, h⟩ := Option.bind_eq_some_iff.mp h
    refine E_gr k0 (by decide) rfl e17 ?_
    refine E_ps 4 (pc' := 73) (l' := [some (.ref x0), some (.int ((10 : Int32) + (z1.1.1 x0 38)))]) (st' := [.ref x0, .int (1 : Int32), .ref x0, .int ((10 : Int32) + (z1.1.1 x0 38)), .ref a16]) rfl ?_
    obtain ⟨a18, e19, h⟩ := Option.bind_eq_some_iff.mp h
    refine E_gr k0 (by decide) rfl e19 ?_
    refine E_ps 1 (pc' := 77) (l' := [some (.ref x0), some (.int ((10 : Int32) + (z1.1.1 x0 38)))]) (st' := [.int ((10 : Int32) + (z1.1.1 x0 38)), .ref a18, .int (1 : Int32), .ref x0, .int ((10 : Int32) + (z1.1.1 x0 38)), .ref a16]) rfl ?_
    obtain ⟨v20, e21, h⟩ := Option.bind_eq_some_iff.mp h
    refine E_ai e21 ?_
    refine E_ps 1 (pc' := 79) (l' := [some (.ref x0), some (.int ((10 : Int32) + (z1.1.1 x0 38)))]) (st' := [.int ((1 : Int32) <<< (v20 &&& 31)), .ref x0, .int ((10 : Int32) + (z1.1.1 x0 38)), .ref a16]) rfl ?_
    obtain ⟨z22, e23, h⟩ := Option.bind_eq_some_iff.mp h
    refine E_callI (vs := [.ref x0, .int ((1 : Int32) <<< (v20 &&& 31))]) (rest := [.int ((10 : Int32) + (z1.1.1 x0 38)), .ref a16]) rfl (by decide) rfl rfl (Nat.le_of_ble_eq_true rfl) (s193 e23) (by decide) ?_
    obtain ⟨t24, e25, h⟩ := Option.bind_eq_some_iff.mp h
    refine E_wi e25 ?_
    refine E_ps 3 (pc' := 88) (l' := [some (.ref x0), some (.int ((10 : Int32) + (z1.1.1 x0 38)))]) (st' := [.long (1953854062 : Int64), .ref x0, .ref x0]) rfl ?_
    obtain ⟨z26, e27, h⟩ := Option.bind_eq_some_iff.mp h
    refine E_callI (vs := [.ref x0, .long (1953854062 : Int64)]) (rest := [.ref x0]) rfl (by decide) rfl rfl (Nat.le_of_ble_eq_true rfl) (s181 e27) (by decide) ?_
    obtain ⟨z28, e29, h⟩ := Option.bind_eq_some_iff.mp h
    refine E_callV (vs := [.ref x0, .int z26.2]) (rest := []) rfl (by decide) rfl rfl (Nat.le_of_ble_eq_true rfl) (s183 e29) (by decide) ?_
    refine E_ps 1 (pc' := 95) (l' := [some (.ref x0), some (.int ((10 : Int32) + (z1.1.1 x0 38)))]) (st' := [.ref x0]) rfl ?_
    obtain ⟨a30, e31, h⟩ := Option.bind_eq_some_iff.mp h
    refine E_gr k0 (by decide) rfl e31 ?_
    refine E_ps 4 (pc' := 102) (l' := [some (.ref x0), some (.int ((10 : Int32) + (z1.1.1 x0 38)))]) (st' := [.int (3 : Int32), .int (0 : Int32), .ref x0, .int ((10 : Int32) + (z1.1.1 x0 38)), .ref a30]) rfl ?_
    obtain ⟨z32, e33, h⟩ := Option.bind_eq_some_iff.mp h
    refine E_callI (vs := [.ref x0, .int (0 : Int32), .int (3 : Int32)]) (rest := [.int ((10 : Int32) + (z1.1.1 x0 38)), .ref a30]) rfl (by decide) rfl rfl (Nat.le_of_ble_eq_true rfl) (s184 e33) (by decide) ?_
    obtain ⟨t34, e35, h⟩ := Option.bind_eq_some_iff.mp h
    refine E_wi e35 ?_
    refine E_ps 1 (pc' := 107) (l' := [some (.ref x0), some (.int ((10 : Int32) + (z1.1.1 x0 38)))]) (st' := [.ref x0]) rfl ?_
    obtain ⟨a36, e37, h⟩ := Option.bind_eq_some_iff.mp h
    refine E_gr k0 (by decide) rfl e37 ?_
    refine E_ps 2 (pc' := 112) (l' := [some (.ref x0), some (.int ((10 : Int32) + (z1.1.1 x0 38)))]) (st' := [.int (0 : Int32), .int ((10 : Int32) + (z1.1.1 x0 38)), .ref a36]) rfl ?_
    obtain ⟨t38, e39, h⟩ := Option.bind_eq_some_iff.mp h
    refine E_wi e39 ?_
    refine E_ps 1 (pc' := 114) (l' := [some (.ref x0), some (.int ((10 : Int32) + (z1.1.1 x0 38)))]) (st' := [.ref x0]) rfl ?_
    obtain ⟨a40, e41, h⟩ := Option.bind_eq_some_iff.mp h
    refine E_gr k0 (by decide) rfl e41 ?_
    refine E_ps 2 (pc' := 119) (l' := [some (.ref x0), some (.int ((10 : Int32) + (z1.1.1 x0 38)))]) (st' := [.int (0 : Int32), .int ((10 : Int32) + (z1.1.1 x0 38)), .ref a40]) rfl ?_
    obtain ⟨t42, e43, h⟩ := Option.bind_eq_some_iff.mp h
    refine E_wi e43 ?_
    refine E_ps 1 (pc' := 121) (l' := [some (.ref x0), some (.int ((10 : Int32) + (z1.1.1 x0 38)))]) (st' := [.ref x0]) rfl ?_
    obtain ⟨z44, e45, h⟩ := Option.bind_eq_some_iff.mp h
    refine E_callI (vs := [.ref x0]) (rest := []) rfl (by decide) rfl rfl (Nat.le_of_ble_eq_true rfl) (s177 e45) (by decide) ?_
    by_cases c46 : z44.2 = 0
    · rw [if_pos c46] at h
      refine E_jt rfl rfl c46 ?_
      exact E_wk (l' := [some (.ref x0), some (.int ((10 : Int32) + (z1.1.1 x0 38)))]) ⟨rfl, rfl, trivial⟩ (s194_165 k0 h hr)
    · rw [if_neg c46] at h
      refine E_jf rfl rfl c46 ?_
      refine E_blk rfl ?_
      refine E_ps 2 (pc' := 131) (l' := [some (.ref x0), some (.int ((10 : Int32) + (z1.1.1 x0 38)))]) (st' := [.long (25209 : Int64), .ref x0]) rfl ?_
      obtain ⟨z47, e48, h⟩ := Option.bind_eq_some_iff.mp h
      refine E_callI (vs := [.ref x0, .long (25209 : Int64)]) (rest := []) rfl (by decide) rfl rfl (Nat.le_of_ble_eq_true rfl) (s181 e48) (by decide) ?_
      by_cases c49 : z47.2 = 0
      · rw [if_pos c49] at h
        refine E_jt rfl rfl c49 ?_
        exact E_wk (l' := [some (.ref x0), some (.int ((10 : Int32) + (z1.1.1 x0 38)))]) ⟨rfl, rfl, trivial⟩ (s194_165 k0 h hr)
      · rw [if_neg c49] at h
        refine E_jf rfl rfl c49 ?_
        refine E_blk rfl ?_
        refine E_ps 1 (pc' := 138) (l' := [some (.ref x0), some (.int ((10 : Int32) + (z1.1.1 x0 38)))]) (st' := [.ref x0]) rfl ?_
        obtain ⟨z50, e51, h⟩ := Option.bind_eq_some_iff.mp h
        refine E_callV (vs := [.ref x0]) (rest := []) rfl (by decide) rfl rfl (Nat.le_of_ble_eq_true rfl) (s179 e51) (by decide) ?_
        refine E_ps 1 (pc' := 142) (l' := [some (.ref x0), some (.int ((10 : Int32) + (z1.1.1 x0 38)))]) (st' := [.ref x0]) rfl ?_
        obtain ⟨a52, e53, h⟩ := Option.bind_eq_some_iff.mp h
        refine E_gr k0 (by decide) rfl e53 ?_
        refine E_ps 4 (pc' := 149) (l' := [some (.ref x0), some (.int ((10 : Int32) + (z1.1.1 x0 38)))]) (st' := [.int (1 : Int32), .int (-1 : Int32), .ref x0, .int ((10 : Int32) + (z1.1.1 x0 38)), .ref a52]) rfl ?_
        obtain ⟨z54, e55, h⟩ := Option.bind_eq_some_iff.mp h
        refine E_callI (vs := [.ref x0, .int (-1 : Int32), .int (1 : Int32)]) (rest := [.int ((10 : Int32) + (z1.1.1 x0 38)), .ref a52]) rfl (by decide) rfl rfl (Nat.le_of_ble_eq_true rfl) (s185 e55) (by decide) ?_
        obtain ⟨t56, e57, h⟩ := Option.bind_eq_some_iff.mp h
        refine E_wi e57 ?_
        refine E_ps 1 (pc' := 154) (l' := [some (.ref x0), some (.int ((10 : Int32) + (z1.1.1 x0 38)))]) (st' := [.ref x0]) rfl ?_
        obtain ⟨a58, e59, h⟩ := Option.bind_eq_some_iff.mp h
        refine E_gr k0 (by decide) rfl e59 ?_
        refine E_ps 4 (pc' := 161) (l' := [some (.ref x0), some (.int ((10 : Int32) + (z1.1.1 x0 38)))]) (st' := [.int (1 : Int32), .int (-1 : Int32), .ref x0, .int ((10 : Int32) + (z1.1.1 x0 38)), .ref a58]) rfl ?_
        obtain ⟨z60, e61, h⟩ := Option.bind_eq_some_iff.mp h
        refine E_callI (vs := [.ref x0, .int (-1 : Int32), .int (1 : Int32)]) (rest := [.int ((10 : Int32) + (z1.1.1 x0 38)), .ref a58]) rfl (by decide) rfl rfl (Nat.le_of_ble_eq_true rfl) (s185 e61) (by decide) ?_
        obtain ⟨t62, e63, h⟩ := Option.bind_eq_some_iff.mp h
        refine E_wi e63 ?_
        exact E_wk (l' := [some (.ref x0), some (.int ((10 : Int32) + (z1.1.1 x0 38)))]) ⟨rfl, rfl, trivial⟩ (s194_165 k0 h hr)
noncomputable def f194_19 (x0 : Nat) (s : xS) : Option (xS × Unit) := (f182 x0 s).bind fun z1 => f194_23 x0 z1.1
set_option maxRecDepth 20000 in
theorem s194_19 {sc : Option (Nat × (Nat → Int32))} {x0 : Nat} {s : xS} {o : xH × Option Value} {r : (xS × Unit)} (k0 : oK x0 12 = true) (h : f194_19 x0 s = some r) (hr : dn194 o r) : Ev sc 4 194 [] 19 [some (.ref x0), none] [] (hk_of s) o := by
  unfold f194_19 at h
  refine E_blk rfl ?_
  refine E_ps 1 (pc' := 20) (l' := [some (.ref x0), none]) (st' := [.ref x0]) rfl ?_
  obtain ⟨z1, e2, h⟩ := Option.bind_eq_some_iff.mp h
  refine E_callV (vs := [.ref x0]) (rest := []) rfl (by decide) rfl rfl (Nat.le_of_ble_eq_true rfl) (s182 e2) (by decide) ?_
  exact E_wk (l' := [some (.ref x0), none]) ⟨rfl, trivial⟩ (s194_23 k0 h hr)
noncomputable def f194 (x0 : Nat) (s : xS) : Option (xS × Unit) := ifg (oK x0 12 = true) <| (f181 x0 (7102841 : Int64) s).bind fun z1 => if z1.2 = 0 then (f194_19 x0 z1.1) else (if (z1.1.1 x0 38) = (10 : Int32) then (f194_19 x0 z1.1) else (f194_23 x0 z1.1))
set_option maxRecDepth 20000 in
theorem s194 {sc : Option (Nat × (Nat → Int32))} {x0 : Nat} {s : xS} {r : xS × Unit} (h : f194 x0 s = some r) : Cl sc 4 194 [.ref x0] (hk_of s) (hk_of r.1, none) := by
  unfold f194 at h
  obtain ⟨k0, h⟩ := ifg_some h
  refine ⟨pg_md 194, [some (.ref x0), none], pg_mt_md (by decide), (hk_rcv k0), rfl, ?_⟩
  generalize ho : ((hk_of r.1, none) : xH × Option Value) = o
  have hr : dn194 o r := ho.symm
  refine E_blk rfl ?_
  refine E_ps 2 (pc' := 4) (l' := [some (.ref x0), none]) (st' := [.long (7102841 : Int64), .ref x0]) rfl ?_
  obtain ⟨z1, e2, h⟩ := Option.bind_eq_some_iff.mp h
  refine E_callI (vs := [.ref x0, .long (7102841 : Int64)]) (rest := []) rfl (by decide) rfl rfl (Nat.le_of_ble_eq_true rfl) (s181 e2) (by decide) ?_
  by_cases c3 : z1.2 = 0
  · rw [if_pos c3] at h
    refine E_jt rfl rfl c3 ?_
    exact E_wk (l' := [some (.ref x0), none]) ⟨rfl, trivial⟩ (s194_19 k0 h hr)
  · rw [if_neg c3] at h
    refine E_jf rfl rfl c3 ?_
    refine E_blk rfl ?_
    refine E_ps 1 (pc' := 11) (l' := [some (.ref x0), none]) (st' := [.ref x0]) rfl ?_
    refine E_gi k0 (by decide) rfl ?_
    refine E_ps 1 (pc' := 16) (l' := [some (.ref x0), none]) (st' := [.int (10 : Int32), .int (z1.1.1 x0 38)]) rfl ?_
    by_cases c4 : (z1.1.1 x0 38) = (10 : Int32)
    · rw [if_pos c4] at h
      refine E_jt rfl rfl c4 ?_
      exact E_wk (l' := [some (.ref x0), none]) ⟨rfl, trivial⟩ (s194_19 k0 h hr)
    · rw [if_neg c4] at h
      refine E_jf rfl rfl c4 ?_
      exact E_wk (l' := [some (.ref x0), none]) ⟨rfl, trivial⟩ (s194_23 k0 h hr)

-- 192: ThreePlatesModel.order()I
def dn192 (o : xH × Option Value) (r : xS × Int32) : Prop := o = (hk_of r.1, some (.int r.2))
def dn192_26 (sc : Option (Nat × (Nat → Int32))) (x0 : Nat) (o : xH × Option Value) (r : ((xS) ⊕ (xS × Int32))) : Prop := match r with
  | .inl q => Ev sc 5 192 [] 26 [some (.ref x0), none] [] (hk_of q) o
  | .inr r => dn192 o r
def dn192_66 (sc : Option (Nat × (Nat → Int32))) (x0 : Nat) (o : xH × Option Value) (r : ((Int32 × xS) ⊕ (xS × Int32))) : Prop := match r with
  | .inl q => Ev sc 5 192 [] 66 [some (.ref x0), some (.int q.1)] [] (hk_of q.2) o
  | .inr r => dn192 o r
noncomputable def f192_66 (x0 : Nat) (x1 : Int32) (s : xS) : Option ((Int32 × xS) ⊕ (xS × Int32)) := if (s.1 x0 37) ≤ x1 then (Option.map Sum.inr (some (s, (s.1 x0 37)))) else ((hk_R x0 30).bind fun a2 => (hk_R x0 30).bind fun a4 => (aI s a4 ((10 : Int32) + x1)).bind fun v6 => (wI s a2 x1 v6).bind fun t8 => (hk_R x0 31).bind fun a10 => (hk_R x0 31).bind fun a12 => (aI t8 a12 ((10 : Int32) + x1)).bind fun v14 => (wI t8 a10 x1 v14).bind fun t16 => (hk_R x0 32).bind fun a18 => (hk_R x0 32).bind fun a20 => (aI t16 a20 ((10 : Int32) + x1)).bind fun v22 => (wI t16 a18 x1 v22).bind fun t24 => (hk_R x0 33).bind fun a26 => (hk_R x0 33).bind fun a28 => (aI t24 a28 ((10 : Int32) + x1)).bind fun v30 => (wI t24 a26 x1 v30).bind fun t32 => (hk_R x0 34).bind fun a34 => (hk_R x0 34).bind fun a36 => (aI t32 a36 ((10 : Int32) + x1)).bind fun v38 => (wI t32 a34 x1 v38).bind fun t40 => (hk_R x0 35).bind fun a42 => (hk_R x0 35).bind fun a44 => (aI t40 a44 ((10 : Int32) + x1)).bind fun v46 => (wI t40 a42 x1 v46).bind fun t48 => (hk_R x0 36).bind fun a50 => (hk_R x0 36).bind fun a52 => (aI t48 a52 ((10 : Int32) + x1)).bind fun v54 => (wI t48 a50 x1 v54).bind fun t56 => some (Sum.inl ((x1 + (1 : Int32)), t56)))
set_option maxRecDepth 20000 in
theorem s192_66 {sc : Option (Nat × (Nat → Int32))} {x0 : Nat} {x1 : Int32} {s : xS} {o : xH × Option Value} {r : ((Int32 × xS) ⊕ (xS × Int32))} (k0 : oK x0 12 = true) (h : f192_66 x0 x1 s = some r) (hr : dn192_66 sc x0 o r) : Ev sc 5 192 [] 66 [some (.ref x0), some (.int x1)] [] (hk_of s) o := by
  unfold f192_66 at h
  refine E_blk rfl ?_
  refine E_ps 2 (pc' := 68) (l' := [some (.ref x0), some (.int x1)]) (st' := [.ref x0, .int x1]) rfl ?_
  refine E_gi k0 (by decide) rfl ?_
  by_cases c1 : (s.1 x0 37) ≤ x1
  · rw [if_pos c1] at h
    refine E_jt rfl rfl c1 ?_
    obtain ⟨r, h, hr⟩ := lf_some (Dn := dn192_66 sc x0 o) h hr
    refine E_blk rfl ?_
    refine E_ps 1 (pc' := 186) (l' := [some (.ref x0), some (.int x1)]) (st' := [.ref x0]) rfl ?_
    refine E_gi k0 (by decide) rfl ?_
    cases h
    exact E_ret rfl (pg_mt_md (by decide)) rfl hr
  · rw [if_neg c1] at h
    refine E_jf rfl rfl c1 ?_
    refine E_blk rfl ?_
    refine E_ps 1 (pc' := 75) (l' := [some (.ref x0), some (.int x1)]) (st' := [.ref x0]) rfl ?_
    obtain ⟨a2, e3, h⟩ := Option.bind_eq_some_iff.mp h
    refine E_gr k0 (by decide) rfl e3 ?_
    refine E_ps 2 (pc' := 80) (l' := [some (.ref x0), some (.int x1)]) (st' := [.ref x0, .int x1, .ref a2]) rfl ?_
    obtain ⟨a4, e5, h⟩ := Option.bind_eq_some_iff.mp h
    refine E_gr k0 (by decide) rfl e5 ?_
    refine E_ps 3 (pc' := 87) (l' := [some (.ref x0), some (.int x1)]) (st' := [.int ((10 : Int32) + x1), .ref a4, .int x1, .ref a2]) rfl ?_
    obtain ⟨v6, e7, h⟩ := Option.bind_eq_some_iff.mp h
    refine E_ai e7 ?_
    obtain ⟨t8, e9, h⟩ := Option.bind_eq_some_iff.mp h
    refine E_wi e9 ?_
    refine E_ps 1 (pc' := 90) (l' := [some (.ref x0), some (.int x1)]) (st' := [.ref x0]) rfl ?_
    obtain ⟨a10, e11, h⟩ := Option.bind_eq_some_iff.mp h
    refine E_gr k0 (by decide) rfl e11 ?_
    refine E_ps 2 (pc' := 95) (l' := [some (.ref x0), some (.int x1)]) (st' := [.ref x0, .int x1, .ref a10]) rfl ?_
    obtain ⟨a12, e13, h⟩ := Option.bind_eq_some_iff.mp h
    refine E_gr k0 (by decide) rfl e13 ?_
    refine E_ps 3 (pc' := 102) (l' := [some (.ref x0), some (.int x1)]) (st' := [.int ((10 : Int32) + x1), .ref a12, .int x1, .ref a10]) rfl ?_
    obtain ⟨v14, e15, h⟩ := Option.bind_eq_some_iff.mp h
    refine E_ai e15 ?_
    obtain ⟨t16, e17, h⟩ := Option.bind_eq_some_iff.mp h
    refine E_wi e17 ?_
    refine E_ps 1 (pc' := 105) (l' := [some (.ref x0), some (.int x1)]) (st' := [.ref x0]) rfl ?_
    obtain ⟨a18, e19, h⟩ := Option.bind_eq_some_iff.mp h
    refine E_gr k0 (by decide) rfl e19 ?_
    refine E_ps 2 (pc' := 110) (l' := [some (.ref x0), some (.int x1)]) (st' := [.ref x0, .int x1, .ref a18]) rfl ?_
    obtain ⟨a20, e21, h⟩ := Option.bind_eq_some_iff.mp h
    refine E_gr k0 (by decide) rfl e21 ?_
    refine E_ps 3 (pc' := 117) (l' := [some (.ref x0), some (.int x1)]) (st' := [.int ((10 : Int32) + x1), .ref a20, .int x1, .ref a18]) rfl ?_
    obtain ⟨v22, e23, h⟩ := Option.bind_eq_some_iff.mp h
    refine E_ai e23 ?_
    obtain ⟨t24, e25, h⟩ := Option.bind_eq_some_iff.mp h
    refine E_wi e25 ?_
    refine E_ps 1 (pc' := 120) (l' := [some (.ref x0), some (.int x1)]) (st' := [.ref x0]) rfl ?_
    obtain ⟨a26, e27, h⟩ := Option.bind_eq_some_iff.mp h
    refine E_gr k0 (by decide) rfl e27 ?_
    refine E_ps 2 (pc' := 125) (l' := [some (.ref x0), some (.int x1)]) (st' := [.ref x0, .int x1, .ref a26]) rfl ?_
    obtain ⟨a28, e29, h⟩ := Option.bind_eq_some_iff.mp h
    refine E_gr k0 (by decide) rfl e29 ?_
    refine E_ps 3 (pc' := 132) (l' := [some (.ref x0), some (.int x1)]) (st' := [.int ((10 : Int32) + x1), .ref a28, .int x1, .ref a26]) rfl ?_
    obtain ⟨v30, e31, h⟩ := Option.bind_eq_some_iff.mp h
    refine E_ai e31 ?_
    obtain ⟨t32, e33, h⟩ := Option.bind_eq_some_iff.mp h
    refine E_wi e33 ?_
    refine E_ps 1 (pc' := 135) (l' := [some (.ref x0), some (.int x1)]) (st' := [.ref x0]) rfl ?_
    obtain ⟨a34, e35, h⟩ := Option.bind_eq_some_iff.mp h
    refine E_gr k0 (by decide) rfl e35 ?_
    refine E_ps 2 (pc' := 140) (l' := [some (.ref x0), some (.int x1)]) (st' := [.ref x0, .int x1, .ref a34]) rfl ?_
    obtain ⟨a36, e37, h⟩ := Option.bind_eq_some_iff.mp h
    refine E_gr k0 (by decide) rfl e37 ?_
    refine E_ps 3 (pc' := 147) (l' := [some (.ref x0), some (.int x1)]) (st' := [.int ((10 : Int32) + x1), .ref a36, .int x1, .ref a34]) rfl ?_
    obtain ⟨v38, e39, h⟩ := Option.bind_eq_some_iff.mp h
    refine E_ai e39 ?_
    obtain ⟨t40, e41, h⟩ := Option.bind_eq_some_iff.mp h
    refine E_wi e41 ?_
    refine E_ps 1 (pc' := 150) (l' := [some (.ref x0), some (.int x1)]) (st' := [.ref x0]) rfl ?_
    obtain ⟨a42, e43, h⟩ := Option.bind_eq_some_iff.mp h
    refine E_gr k0 (by decide) rfl e43 ?_
    refine E_ps 2 (pc' := 155) (l' := [some (.ref x0), some (.int x1)]) (st' := [.ref x0, .int x1, .ref a42]) rfl ?_
    obtain ⟨a44, e45, h⟩ := Option.bind_eq_some_iff.mp h
    refine E_gr k0 (by decide) rfl e45 ?_
    refine E_ps 3 (pc' := 162) (l' := [some (.ref x0), some (.int x1)]) (st' := [.int ((10 : Int32) + x1), .ref a44, .int x1, .ref a42]) rfl ?_
    obtain ⟨v46, e47, h⟩ := Option.bind_eq_some_iff.mp h
    refine E_ai e47 ?_
    obtain ⟨t48, e49, h⟩ := Option.bind_eq_some_iff.mp h
    refine E_wi e49 ?_
    refine E_ps 1 (pc' := 165) (l' := [some (.ref x0), some (.int x1)]) (st' := [.ref x0]) rfl ?_
    obtain ⟨a50, e51, h⟩ := Option.bind_eq_some_iff.mp h
    refine E_gr k0 (by decide) rfl e51 ?_
    refine E_ps 2 (pc' := 170) (l' := [some (.ref x0), some (.int x1)]) (st' := [.ref x0, .int x1, .ref a50]) rfl ?_
    obtain ⟨a52, e53, h⟩ := Option.bind_eq_some_iff.mp h
    refine E_gr k0 (by decide) rfl e53 ?_
    refine E_ps 3 (pc' := 177) (l' := [some (.ref x0), some (.int x1)]) (st' := [.int ((10 : Int32) + x1), .ref a52, .int x1, .ref a50]) rfl ?_
    obtain ⟨v54, e55, h⟩ := Option.bind_eq_some_iff.mp h
    refine E_ai e55 ?_
    obtain ⟨t56, e57, h⟩ := Option.bind_eq_some_iff.mp h
    refine E_wi e57 ?_
    refine E_ps 1 (pc' := 182) (l' := [some (.ref x0), some (.int (x1 + (1 : Int32)))]) (st' := []) rfl ?_
    refine E_j rfl rfl ?_
    cases h
    exact E_wk (l' := [some (.ref x0), some (.int (x1 + (1 : Int32)))]) ⟨rfl, rfl, trivial⟩ hr
theorem s192_66_w {sc : Option (Nat × (Nat → Int32))} {x0 : Nat} {x1 : Int32} {s : xS} {o : xH × Option Value} {r : (xS × Int32)} (k0 : oK x0 12 = true) (h : whl (fun q : (Int32 × xS) => f192_66 x0 q.1 q.2) (x1, s) = some r) (hr : dn192 o r) : Ev sc 5 192 [] 66 [some (.ref x0), some (.int x1)] [] (hk_of s) o := by
  refine whl_snd (E := fun q : (Int32 × xS) => Ev sc 5 192 [] 66 [some (.ref x0), some (.int q.1)] [] (hk_of q.2) o) (P := fun r => dn192 o r) (fun q r h hr => ?_) h hr
  exact s192_66 k0 h (by cases r <;> exact hr)
noncomputable def f192_47 (x0 : Nat) (s : xS) : Option (xS × Int32) := (f177 x0 s).bind fun z1 => if z1.2 = 0 then (some (z1.1, (-1 : Int32))) else ((pI z1.1 x0 37 (z1.1.1 x0 38)).bind fun t4 => whl (fun q : (Int32 × xS) => f192_66 x0 q.1 q.2) ((0 : Int32), t4))
set_option maxRecDepth 20000 in
theorem s192_47 {sc : Option (Nat × (Nat → Int32))} {x0 : Nat} {s : xS} {o : xH × Option Value} {r : (xS × Int32)} (k0 : oK x0 12 = true) (h : f192_47 x0 s = some r) (hr : dn192 o r) : Ev sc 5 192 [] 47 [some (.ref x0), none] [] (hk_of s) o := by
  unfold f192_47 at h
  refine E_blk rfl ?_
  refine E_ps 1 (pc' := 48) (l' := [some (.ref x0), none]) (st' := [.ref x0]) rfl ?_
  obtain ⟨z1, e2, h⟩ := Option.bind_eq_some_iff.mp h
  refine E_callI (vs := [.ref x0]) (rest := []) rfl (by decide) rfl rfl (Nat.le_of_ble_eq_true rfl) (s177 e2) (by decide) ?_
  by_cases c3 : z1.2 = 0
  · rw [if_pos c3] at h
    refine E_jt rfl rfl c3 ?_
    refine E_blk rfl ?_
    refine E_ps 1 (pc' := 55) (l' := [some (.ref x0), none]) (st' := [.int (-1 : Int32)]) rfl ?_
    cases h
    exact E_ret rfl (pg_mt_md (by decide)) rfl hr
  · rw [if_neg c3] at h
    refine E_jf rfl rfl c3 ?_
    refine E_blk rfl ?_
    refine E_ps 2 (pc' := 58) (l' := [some (.ref x0), none]) (st' := [.ref x0, .ref x0]) rfl ?_
    refine E_gi k0 (by decide) rfl ?_
    obtain ⟨t4, e5, h⟩ := Option.bind_eq_some_iff.mp h
    refine E_pi k0 (by decide) rfl e5 ?_
    refine E_ps 2 (pc' := 66) (l' := [some (.ref x0), some (.int (0 : Int32))]) (st' := []) rfl ?_
    exact E_wk (l' := [some (.ref x0), some (.int (0 : Int32))]) ⟨rfl, rfl, trivial⟩ (s192_66_w k0 h hr)
noncomputable def f192_26 (x0 : Nat) (s : xS) : Option ((xS) ⊕ (xS × Int32)) := (f177 x0 s).bind fun z1 => if z1.2 = 0 then (Option.map Sum.inr (f192_47 x0 z1.1)) else (if (z1.1.1 x0 8) = 0 then (Option.map Sum.inr (f192_47 x0 z1.1)) else ((f194 x0 z1.1).bind fun z5 => some (Sum.inl z5.1)))
set_option maxRecDepth 20000 in
theorem s192_26 {sc : Option (Nat × (Nat → Int32))} {x0 : Nat} {s : xS} {o : xH × Option Value} {r : ((xS) ⊕ (xS × Int32))} (k0 : oK x0 12 = true) (h : f192_26 x0 s = some r) (hr : dn192_26 sc x0 o r) : Ev sc 5 192 [] 26 [some (.ref x0), none] [] (hk_of s) o := by
  unfold f192_26 at h
  refine E_blk rfl ?_
  refine E_ps 1 (pc' := 27) (l' := [some (.ref x0), none]) (st' := [.ref x0]) rfl ?_
  obtain ⟨z1, e2, h⟩ := Option.bind_eq_some_iff.mp h
  refine E_callI (vs := [.ref x0]) (rest := []) rfl (by decide) rfl rfl (Nat.le_of_ble_eq_true rfl) (s177 e2) (by decide) ?_
  by_cases c3 : z1.2 = 0
  · rw [if_pos c3] at h
    refine E_jt rfl rfl c3 ?_
    obtain ⟨r, h, hr⟩ := lf_some (Dn := dn192_26 sc x0 o) h hr
    exact E_wk (l' := [some (.ref x0), none]) ⟨rfl, trivial⟩ (s192_47 k0 h hr)
  · rw [if_neg c3] at h
    refine E_jf rfl rfl c3 ?_
    refine E_blk rfl ?_
    refine E_ps 1 (pc' := 34) (l' := [some (.ref x0), none]) (st' := [.ref x0]) rfl ?_
    refine E_gi k0 (by decide) rfl ?_
    by_cases c4 : (z1.1.1 x0 8) = 0
    · rw [if_pos c4] at h
      refine E_jt rfl rfl c4 ?_
      obtain ⟨r, h, hr⟩ := lf_some (Dn := dn192_26 sc x0 o) h hr
      exact E_wk (l' := [some (.ref x0), none]) ⟨rfl, trivial⟩ (s192_47 k0 h hr)
    · rw [if_neg c4] at h
      refine E_jf rfl rfl c4 ?_
      refine E_blk rfl ?_
      refine E_ps 1 (pc' := 41) (l' := [some (.ref x0), none]) (st' := [.ref x0]) rfl ?_
      obtain ⟨z5, e6, h⟩ := Option.bind_eq_some_iff.mp h
      refine E_callV (vs := [.ref x0]) (rest := []) rfl (by decide) rfl rfl (Nat.le_of_ble_eq_true rfl) (s194 e6) (by decide) ?_
      refine E_j rfl rfl ?_
      cases h
      exact E_wk (l' := [some (.ref x0), none]) ⟨rfl, trivial⟩ hr
theorem s192_26_w {sc : Option (Nat × (Nat → Int32))} {x0 : Nat} {s : xS} {o : xH × Option Value} {r : (xS × Int32)} (k0 : oK x0 12 = true) (h : whl (fun q : (xS) => f192_26 x0 q) s = some r) (hr : dn192 o r) : Ev sc 5 192 [] 26 [some (.ref x0), none] [] (hk_of s) o := by
  refine whl_snd (E := fun q : (xS) => Ev sc 5 192 [] 26 [some (.ref x0), none] [] (hk_of q) o) (P := fun r => dn192 o r) (fun q r h hr => ?_) h hr
  exact s192_26 k0 h (by cases r <;> exact hr)
noncomputable def f192 (x0 : Nat) (s : xS) : Option (xS × Int32) := ifg (oK x0 12 = true) <| if (s.1 x0 2) ≤ (500 : Int32) then ((f186 x0 s).bind fun z2 => (pI z2.1 x0 38 (0 : Int32)).bind fun t4 => (f179 x0 t4).bind fun z6 => whl (fun q : (xS) => f192_26 x0 q) z6.1) else (some (s, (-2 : Int32)))
set_option maxRecDepth 20000 in
theorem s192 {sc : Option (Nat × (Nat → Int32))} {x0 : Nat} {s : xS} {r : xS × Int32} (h : f192 x0 s = some r) : Cl sc 5 192 [.ref x0] (hk_of s) (hk_of r.1, some (.int r.2)) := by
  unfold f192 at h
  obtain ⟨k0, h⟩ := ifg_some h
  refine ⟨pg_md 192, [some (.ref x0), none], pg_mt_md (by decide), (hk_rcv k0), rfl, ?_⟩
  generalize ho : ((hk_of r.1, some (Value.int r.2)) : xH × Option Value) = o
  have hr : dn192 o r := ho.symm
  refine E_blk rfl ?_
  refine E_ps 1 (pc' := 1) (l' := [some (.ref x0), none]) (st' := [.ref x0]) rfl ?_
  refine E_gi k0 (by decide) rfl ?_
  refine E_ps 1 (pc' := 7) (l' := [some (.ref x0), none]) (st' := [.int (500 : Int32), .int (s.1 x0 2)]) rfl ?_
  by_cases c1 : (s.1 x0 2) ≤ (500 : Int32)
  · rw [if_pos c1] at h
    refine E_jt rfl rfl c1 ?_
    refine E_blk rfl ?_
    refine E_ps 1 (pc' := 14) (l' := [some (.ref x0), none]) (st' := [.ref x0]) rfl ?_
    obtain ⟨z2, e3, h⟩ := Option.bind_eq_some_iff.mp h
    refine E_callV (vs := [.ref x0]) (rest := []) rfl (by decide) rfl rfl (Nat.le_of_ble_eq_true rfl) (s186 e3) (by decide) ?_
    refine E_ps 2 (pc' := 19) (l' := [some (.ref x0), none]) (st' := [.int (0 : Int32), .ref x0]) rfl ?_
    obtain ⟨t4, e5, h⟩ := Option.bind_eq_some_iff.mp h
    refine E_pi k0 (by decide) rfl e5 ?_
    refine E_ps 1 (pc' := 23) (l' := [some (.ref x0), none]) (st' := [.ref x0]) rfl ?_
    obtain ⟨z6, e7, h⟩ := Option.bind_eq_some_iff.mp h
    refine E_callV (vs := [.ref x0]) (rest := []) rfl (by decide) rfl rfl (Nat.le_of_ble_eq_true rfl) (s179 e7) (by decide) ?_
    exact E_wk (l' := [some (.ref x0), none]) ⟨rfl, trivial⟩ (s192_26_w k0 h hr)
  · rw [if_neg c1] at h
    refine E_jf rfl rfl c1 ?_
    refine E_blk rfl ?_
    refine E_ps 1 (pc' := 12) (l' := [some (.ref x0), none]) (st' := [.int (-2 : Int32)]) rfl ?_
    cases h
    exact E_ret rfl (pg_mt_md (by decide)) rfl hr

-- 195: ThreePlatesModel.isIn(III)Z
def dn195 (o : xH × Option Value) (r : xS × Int32) : Prop := o = (hk_of r.1, some (.int r.2))
noncomputable def f195_15 (y0 : Int32) (s : xS) : Option (xS × Int32) := ifg (y0 = 0 ∨ y0 = 1) <| some (s, y0)
set_option maxRecDepth 20000 in
theorem s195_15 {sc : Option (Nat × (Nat → Int32))} {y0 : Int32} {s : xS} {o : xH × Option Value} {r : (xS × Int32)}  (h : f195_15 y0 s = some r) (hr : dn195 o r) : Ev sc 1 195 [] 15 [none, none, none] [.int y0] (hk_of s) o := by
  unfold f195_15 at h
  refine E_blk rfl ?_
  obtain ⟨g1, h⟩ := ifg_some h
  cases h
  exact E_ret rfl (pg_mt_md (by decide)) (hk_retz g1 rfl) hr
noncomputable def f195_14  (s : xS) : Option (xS × Int32) := f195_15 (0 : Int32) s
set_option maxRecDepth 20000 in
theorem s195_14 {sc : Option (Nat × (Nat → Int32))}  {s : xS} {o : xH × Option Value} {r : (xS × Int32)}  (h : f195_14  s = some r) (hr : dn195 o r) : Ev sc 1 195 [] 14 [none, none, none] [] (hk_of s) o := by
  unfold f195_14 at h
  refine E_blk rfl ?_
  refine E_ps 1 (pc' := 15) (l' := [none, none, none]) (st' := [.int (0 : Int32)]) rfl ?_
  exact E_wk (l' := [none, none, none]) trivial (s195_15  h hr)
noncomputable def f195 (x0 : Int32) (x1 : Int32) (x2 : Int32) (s : xS) : Option (xS × Int32) :=  if x0 < x1 then (f195_14  s) else (if x2 < x0 then (f195_14  s) else (f195_15 (1 : Int32) s))
set_option maxRecDepth 20000 in
theorem s195 {sc : Option (Nat × (Nat → Int32))} {x0 : Int32} {x1 : Int32} {x2 : Int32} {s : xS} {r : xS × Int32} (h : f195 x0 x1 x2 s = some r) : Cl sc 1 195 [.int x0, .int x1, .int x2] (hk_of s) (hk_of r.1, some (.int r.2)) := by
  unfold f195 at h
  refine ⟨pg_md 195, [some (.int x0), some (.int x1), some (.int x2)], pg_mt_md (by decide), rfl, rfl, ?_⟩
  generalize ho : ((hk_of r.1, some (Value.int r.2)) : xH × Option Value) = o
  have hr : dn195 o r := ho.symm
  refine E_blk rfl ?_
  refine E_ps 2 (pc' := 2) (l' := [some (.int x0), some (.int x1), some (.int x2)]) (st' := [.int x1, .int x0]) rfl ?_
  by_cases c1 : x0 < x1
  · rw [if_pos c1] at h
    refine E_jt rfl rfl c1 ?_
    exact E_wk (l' := [none, none, none]) trivial (s195_14  h hr)
  · rw [if_neg c1] at h
    refine E_jf rfl rfl c1 ?_
    refine E_blk rfl ?_
    refine E_ps 2 (pc' := 7) (l' := [some (.int x0), some (.int x1), some (.int x2)]) (st' := [.int x2, .int x0]) rfl ?_
    by_cases c2 : x2 < x0
    · rw [if_pos c2] at h
      refine E_jt rfl rfl c2 ?_
      exact E_wk (l' := [none, none, none]) trivial (s195_14  h hr)
    · rw [if_neg c2] at h
      refine E_jf rfl rfl c2 ?_
      refine E_blk rfl ?_
      refine E_ps 1 (pc' := 11) (l' := [some (.int x0), some (.int x1), some (.int x2)]) (st' := [.int (1 : Int32)]) rfl ?_
      refine E_j rfl rfl ?_
      exact E_wk (l' := [none, none, none]) trivial (s195_15  h hr)

-- 196: ThreePlatesModel.n()I
def dn196 (o : xH × Option Value) (r : xS × Int32) : Prop := o = (hk_of r.1, some (.int r.2))
noncomputable def f196 (x0 : Nat) (s : xS) : Option (xS × Int32) := ifg (oK x0 12 = true) <| (hk_R x0 11).bind fun a1 => (aI s a1 (s.1 x0 25)).bind fun v3 => some (s, v3)
set_option maxRecDepth 20000 in
theorem s196 {sc : Option (Nat × (Nat → Int32))} {x0 : Nat} {s : xS} {r : xS × Int32} (h : f196 x0 s = some r) : Cl sc 1 196 [.ref x0] (hk_of s) (hk_of r.1, some (.int r.2)) := by
  unfold f196 at h
  obtain ⟨k0, h⟩ := ifg_some h
  refine ⟨pg_md 196, [some (.ref x0)], pg_mt_md (by decide), (hk_rcv k0), rfl, ?_⟩
  generalize ho : ((hk_of r.1, some (Value.int r.2)) : xH × Option Value) = o
  have hr : dn196 o r := ho.symm
  refine E_blk rfl ?_
  refine E_ps 1 (pc' := 1) (l' := [some (.ref x0)]) (st' := [.ref x0]) rfl ?_
  obtain ⟨a1, e2, h⟩ := Option.bind_eq_some_iff.mp h
  refine E_gr k0 (by decide) rfl e2 ?_
  refine E_ps 1 (pc' := 5) (l' := [some (.ref x0)]) (st' := [.ref x0, .ref a1]) rfl ?_
  refine E_gi k0 (by decide) rfl ?_
  obtain ⟨v3, e4, h⟩ := Option.bind_eq_some_iff.mp h
  refine E_ai e4 ?_
  cases h
  exact E_ret rfl (pg_mt_md (by decide)) rfl hr

-- 197: ThreePlatesModel.cells()I
def dn197 (o : xH × Option Value) (r : xS × Int32) : Prop := o = (hk_of r.1, some (.int r.2))
noncomputable def f197 (x0 : Nat) (s : xS) : Option (xS × Int32) := ifg (oK x0 12 = true) <| (f196 x0 s).bind fun z1 => (f196 x0 z1.1).bind fun z3 => some (z3.1, (z1.2 * z3.2))
set_option maxRecDepth 20000 in
theorem s197 {sc : Option (Nat × (Nat → Int32))} {x0 : Nat} {s : xS} {r : xS × Int32} (h : f197 x0 s = some r) : Cl sc 2 197 [.ref x0] (hk_of s) (hk_of r.1, some (.int r.2)) := by
  unfold f197 at h
  obtain ⟨k0, h⟩ := ifg_some h
  refine ⟨pg_md 197, [some (.ref x0)], pg_mt_md (by decide), (hk_rcv k0), rfl, ?_⟩
  generalize ho : ((hk_of r.1, some (Value.int r.2)) : xH × Option Value) = o
  have hr : dn197 o r := ho.symm
  refine E_blk rfl ?_
  refine E_ps 1 (pc' := 1) (l' := [some (.ref x0)]) (st' := [.ref x0]) rfl ?_
  obtain ⟨z1, e2, h⟩ := Option.bind_eq_some_iff.mp h
  refine E_callI (vs := [.ref x0]) (rest := []) rfl (by decide) rfl rfl (Nat.le_of_ble_eq_true rfl) (s196 e2) (by decide) ?_
  refine E_ps 1 (pc' := 5) (l' := [some (.ref x0)]) (st' := [.ref x0, .int z1.2]) rfl ?_
  obtain ⟨z3, e4, h⟩ := Option.bind_eq_some_iff.mp h
  refine E_callI (vs := [.ref x0]) (rest := [.int z1.2]) rfl (by decide) rfl rfl (Nat.le_of_ble_eq_true rfl) (s196 e4) (by decide) ?_
  refine E_ps 1 (pc' := 9) (l' := [some (.ref x0)]) (st' := [.int (z1.2 * z3.2)]) rfl ?_
  cases h
  exact E_ret rfl (pg_mt_md (by decide)) rfl hr

-- 198: ThreePlatesModel.isPlate(I)Z
def dn198 (o : xH × Option Value) (r : xS × Int32) : Prop := o = (hk_of r.1, some (.int r.2))
noncomputable def f198 (x0 : Nat) (x1 : Int32) (s : xS) : Option (xS × Int32) := ifg (oK x0 12 = true) <| (hk_R x0 12).bind fun a1 => (aI s a1 (s.1 x0 25)).bind fun v3 => (f195 x1 (0 : Int32) (v3 - (1 : Int32)) s).bind fun z5 => ifg (z5.2 = 0 ∨ z5.2 = 1) <| some (z5.1, z5.2)
set_option maxRecDepth 20000 in
theorem s198 {sc : Option (Nat × (Nat → Int32))} {x0 : Nat} {x1 : Int32} {s : xS} {r : xS × Int32} (h : f198 x0 x1 s = some r) : Cl sc 2 198 [.ref x0, .int x1] (hk_of s) (hk_of r.1, some (.int r.2)) := by
  unfold f198 at h
  obtain ⟨k0, h⟩ := ifg_some h
  refine ⟨pg_md 198, [some (.ref x0), some (.int x1)], pg_mt_md (by decide), (hk_rcv k0), rfl, ?_⟩
  generalize ho : ((hk_of r.1, some (Value.int r.2)) : xH × Option Value) = o
  have hr : dn198 o r := ho.symm
  refine E_blk rfl ?_
  refine E_ps 3 (pc' := 3) (l' := [some (.ref x0), some (.int x1)]) (st' := [.ref x0, .int (0 : Int32), .int x1]) rfl ?_
  obtain ⟨a1, e2, h⟩ := Option.bind_eq_some_iff.mp h
  refine E_gr k0 (by decide) rfl e2 ?_
  refine E_ps 1 (pc' := 7) (l' := [some (.ref x0), some (.int x1)]) (st' := [.ref x0, .ref a1, .int (0 : Int32), .int x1]) rfl ?_
  refine E_gi k0 (by decide) rfl ?_
  obtain ⟨v3, e4, h⟩ := Option.bind_eq_some_iff.mp h
  refine E_ai e4 ?_
  refine E_ps 2 (pc' := 13) (l' := [some (.ref x0), some (.int x1)]) (st' := [.int (v3 - (1 : Int32)), .int (0 : Int32), .int x1]) rfl ?_
  obtain ⟨z5, e6, h⟩ := Option.bind_eq_some_iff.mp h
  refine E_callI (vs := [.int x1, .int (0 : Int32), .int (v3 - (1 : Int32))]) (rest := []) rfl (by decide) rfl rfl (Nat.le_of_ble_eq_true rfl) (s195 e6) (by decide) ?_
  obtain ⟨g7, h⟩ := ifg_some h
  cases h
  exact E_ret rfl (pg_mt_md (by decide)) (hk_retz g7 rfl) hr

-- 199: ThreePlatesModel.isCell(II)Z
def dn199 (o : xH × Option Value) (r : xS × Int32) : Prop := o = (hk_of r.1, some (.int r.2))
noncomputable def f199_27 (y0 : Int32) (s : xS) : Option (xS × Int32) := ifg (y0 = 0 ∨ y0 = 1) <| some (s, y0)
set_option maxRecDepth 20000 in
theorem s199_27 {sc : Option (Nat × (Nat → Int32))} {y0 : Int32} {s : xS} {o : xH × Option Value} {r : (xS × Int32)}  (h : f199_27 y0 s = some r) (hr : dn199 o r) : Ev sc 3 199 [] 27 [none, none, none] [.int y0] (hk_of s) o := by
  unfold f199_27 at h
  refine E_blk rfl ?_
  obtain ⟨g1, h⟩ := ifg_some h
  cases h
  exact E_ret rfl (pg_mt_md (by decide)) (hk_retz g1 rfl) hr
noncomputable def f199_26  (s : xS) : Option (xS × Int32) := f199_27 (0 : Int32) s
set_option maxRecDepth 20000 in
theorem s199_26 {sc : Option (Nat × (Nat → Int32))}  {s : xS} {o : xH × Option Value} {r : (xS × Int32)}  (h : f199_26  s = some r) (hr : dn199 o r) : Ev sc 3 199 [] 26 [none, none, none] [] (hk_of s) o := by
  unfold f199_26 at h
  refine E_blk rfl ?_
  refine E_ps 1 (pc' := 27) (l' := [none, none, none]) (st' := [.int (0 : Int32)]) rfl ?_
  exact E_wk (l' := [none, none, none]) trivial (s199_27  h hr)
noncomputable def f199 (x0 : Nat) (x1 : Int32) (x2 : Int32) (s : xS) : Option (xS × Int32) := ifg (oK x0 12 = true) <| (f198 x0 x1 s).bind fun z1 => if z1.2 = 0 then (f199_26  z1.1) else ((f197 x0 z1.1).bind fun z4 => (f195 x2 (0 : Int32) (z4.2 - (1 : Int32)) z4.1).bind fun z6 => if z6.2 = 0 then (f199_26  z6.1) else (f199_27 (1 : Int32) z6.1))
set_option maxRecDepth 20000 in
theorem s199 {sc : Option (Nat × (Nat → Int32))} {x0 : Nat} {x1 : Int32} {x2 : Int32} {s : xS} {r : xS × Int32} (h : f199 x0 x1 x2 s = some r) : Cl sc 3 199 [.ref x0, .int x1, .int x2] (hk_of s) (hk_of r.1, some (.int r.2)) := by
  unfold f199 at h
  obtain ⟨k0, h⟩ := ifg_some h
  refine ⟨pg_md 199, [some (.ref x0), some (.int x1), some (.int x2)], pg_mt_md (by decide), (hk_rcv k0), rfl, ?_⟩
  generalize ho : ((hk_of r.1, some (Value.int r.2)) : xH × Option Value) = o
  have hr : dn199 o r := ho.symm
  refine E_blk rfl ?_
  refine E_ps 2 (pc' := 2) (l' := [some (.ref x0), some (.int x1), some (.int x2)]) (st' := [.int x1, .ref x0]) rfl ?_
  obtain ⟨z1, e2, h⟩ := Option.bind_eq_some_iff.mp h
  refine E_callI (vs := [.ref x0, .int x1]) (rest := []) rfl (by decide) rfl rfl (Nat.le_of_ble_eq_true rfl) (s198 e2) (by decide) ?_
  by_cases c3 : z1.2 = 0
  · rw [if_pos c3] at h
    refine E_jt rfl rfl c3 ?_
    exact E_wk (l' := [none, none, none]) trivial (s199_26  h hr)
  · rw [if_neg c3] at h
    refine E_jf rfl rfl c3 ?_
    refine E_blk rfl ?_
    refine E_ps 3 (pc' := 11) (l' := [some (.ref x0), some (.int x1), some (.int x2)]) (st' := [.ref x0, .int (0 : Int32), .int x2]) rfl ?_
    obtain ⟨z4, e5, h⟩ := Option.bind_eq_some_iff.mp h
    refine E_callI (vs := [.ref x0]) (rest := [.int (0 : Int32), .int x2]) rfl (by decide) rfl rfl (Nat.le_of_ble_eq_true rfl) (s197 e5) (by decide) ?_
    refine E_ps 2 (pc' := 16) (l' := [some (.ref x0), some (.int x1), some (.int x2)]) (st' := [.int (z4.2 - (1 : Int32)), .int (0 : Int32), .int x2]) rfl ?_
    obtain ⟨z6, e7, h⟩ := Option.bind_eq_some_iff.mp h
    refine E_callI (vs := [.int x2, .int (0 : Int32), .int (z4.2 - (1 : Int32))]) (rest := []) rfl (by decide) rfl rfl (Nat.le_of_ble_eq_true rfl) (s195 e7) (by decide) ?_
    by_cases c8 : z6.2 = 0
    · rw [if_pos c8] at h
      refine E_jt rfl rfl c8 ?_
      exact E_wk (l' := [none, none, none]) trivial (s199_26  h hr)
    · rw [if_neg c8] at h
      refine E_jf rfl rfl c8 ?_
      refine E_blk rfl ?_
      refine E_ps 1 (pc' := 23) (l' := [some (.ref x0), some (.int x1), some (.int x2)]) (st' := [.int (1 : Int32)]) rfl ?_
      refine E_j rfl rfl ?_
      exact E_wk (l' := [none, none, none]) trivial (s199_27  h hr)

-- 200: ThreePlatesModel.height(II)I
def dn200 (o : xH × Option Value) (r : xS × Int32) : Prop := o = (hk_of r.1, some (.int r.2))
noncomputable def f200_26 (y0 : Int32) (s : xS) : Option (xS × Int32) := some (s, y0)
set_option maxRecDepth 20000 in
theorem s200_26 {sc : Option (Nat × (Nat → Int32))} {y0 : Int32} {s : xS} {o : xH × Option Value} {r : (xS × Int32)}  (h : f200_26 y0 s = some r) (hr : dn200 o r) : Ev sc 4 200 [] 26 [none, none, none] [.int y0] (hk_of s) o := by
  unfold f200_26 at h
  refine E_blk rfl ?_
  cases h
  exact E_ret rfl (pg_mt_md (by decide)) rfl hr
noncomputable def f200 (x0 : Nat) (x1 : Int32) (x2 : Int32) (s : xS) : Option (xS × Int32) := ifg (oK x0 12 = true) <| (f199 x0 x1 x2 s).bind fun z1 => if z1.2 = 0 then (f200_26 (-100000 : Int32) z1.1) else ((hk_R x0 20).bind fun a4 => (aI z1.1 a4 (((25 : Int32) * x1) + x2)).bind fun v6 => f200_26 v6 z1.1)
set_option maxRecDepth 20000 in
theorem s200 {sc : Option (Nat × (Nat → Int32))} {x0 : Nat} {x1 : Int32} {x2 : Int32} {s : xS} {r : xS × Int32} (h : f200 x0 x1 x2 s = some r) : Cl sc 4 200 [.ref x0, .int x1, .int x2] (hk_of s) (hk_of r.1, some (.int r.2)) := by
  unfold f200 at h
  obtain ⟨k0, h⟩ := ifg_some h
  refine ⟨pg_md 200, [some (.ref x0), some (.int x1), some (.int x2)], pg_mt_md (by decide), (hk_rcv k0), rfl, ?_⟩
  generalize ho : ((hk_of r.1, some (Value.int r.2)) : xH × Option Value) = o
  have hr : dn200 o r := ho.symm
  refine E_blk rfl ?_
  refine E_ps 3 (pc' := 3) (l' := [some (.ref x0), some (.int x1), some (.int x2)]) (st' := [.int x2, .int x1, .ref x0]) rfl ?_
  obtain ⟨z1, e2, h⟩ := Option.bind_eq_some_iff.mp h
  refine E_callI (vs := [.ref x0, .int x1, .int x2]) (rest := []) rfl (by decide) rfl rfl (Nat.le_of_ble_eq_true rfl) (s199 e2) (by decide) ?_
  by_cases c3 : z1.2 = 0
  · rw [if_pos c3] at h
    refine E_jt rfl rfl c3 ?_
    refine E_blk rfl ?_
    refine E_ps 1 (pc' := 26) (l' := [some (.ref x0), some (.int x1), some (.int x2)]) (st' := [.int (-100000 : Int32)]) rfl ?_
    exact E_wk (l' := [none, none, none]) trivial (s200_26  h hr)
  · rw [if_neg c3] at h
    refine E_jf rfl rfl c3 ?_
    refine E_blk rfl ?_
    refine E_ps 1 (pc' := 10) (l' := [some (.ref x0), some (.int x1), some (.int x2)]) (st' := [.ref x0]) rfl ?_
    obtain ⟨a4, e5, h⟩ := Option.bind_eq_some_iff.mp h
    refine E_gr k0 (by decide) rfl e5 ?_
    refine E_ps 5 (pc' := 19) (l' := [some (.ref x0), some (.int x1), some (.int x2)]) (st' := [.int (((25 : Int32) * x1) + x2), .ref a4]) rfl ?_
    obtain ⟨v6, e7, h⟩ := Option.bind_eq_some_iff.mp h
    refine E_ai e7 ?_
    refine E_j rfl rfl ?_
    exact E_wk (l' := [none, none, none]) trivial (s200_26  h hr)

-- 203: ThreePlatesModel.nearest(II)I
def dn203 (o : xH × Option Value) (r : xS × Int32) : Prop := o = (hk_of r.1, some (.int r.2))
def dn203_7 (sc : Option (Nat × (Nat → Int32))) (x0 : Nat) (x1 : Int32) (x2 : Int32) (o : xH × Option Value) (r : ((Int32 × Int32 × xS) ⊕ (xS × Int32))) : Prop := match r with
  | .inl q => Ev sc 2 203 [] 7 [some (.ref x0), some (.int x1), some (.int x2), some (.int q.1), some (.int q.2.1), none, none, none] [] (hk_of q.2.2) o
  | .inr r => dn203 o r
noncomputable def f203_88 (x0 : Nat) (x1 : Int32) (x2 : Int32) (x4 : Int32) (y0 : Int32) (s : xS) : Option ((Int32 × Int32 × xS) ⊕ (xS × Int32)) := some (Sum.inl (y0, (x4 + (1 : Int32)), s))
set_option maxRecDepth 20000 in
theorem s203_88 {sc : Option (Nat × (Nat → Int32))} {x0 : Nat} {x1 : Int32} {x2 : Int32} {x4 : Int32} {y0 : Int32} {s : xS} {o : xH × Option Value} {r : ((Int32 × Int32 × xS) ⊕ (xS × Int32))} (k0 : oK x0 12 = true) (h : f203_88 x0 x1 x2 x4 y0 s = some r) (hr : dn203_7 sc x0 x1 x2 o r) : Ev sc 2 203 [] 88 [some (.ref x0), some (.int x1), some (.int x2), none, some (.int x4), none, none, none] [.int y0] (hk_of s) o := by
  unfold f203_88 at h
  refine E_blk rfl ?_
  refine E_ps 2 (pc' := 92) (l' := [some (.ref x0), some (.int x1), some (.int x2), some (.int y0), some (.int (x4 + (1 : Int32))), none, none, none]) (st' := []) rfl ?_
  refine E_j rfl rfl ?_
  cases h
  exact E_wk (l' := [some (.ref x0), some (.int x1), some (.int x2), some (.int y0), some (.int (x4 + (1 : Int32))), none, none, none]) ⟨rfl, rfl, rfl, rfl, rfl, trivial⟩ hr
noncomputable def f203_7 (x0 : Nat) (x1 : Int32) (x2 : Int32) (x3 : Int32) (x4 : Int32) (s : xS) : Option ((Int32 × Int32 × xS) ⊕ (xS × Int32)) := if (3 : Int32) ≤ x4 then (Option.map Sum.inr (some (s, x3))) else ((hk_R x0 22).bind fun a2 => (aI s a2 (((3 : Int32) * x1) + x4)).bind fun v4 => (f196 x0 s).bind fun z6 => ifg (¬ z6.2 = 0) <| (f196 x0 z6.1).bind fun z9 => ifg (¬ z9.2 = 0) <| (hk_R x0 22).bind fun a12 => (aI z9.1 a12 (((3 : Int32) * x1) + x4)).bind fun v14 => (f196 x0 z9.1).bind fun z16 => ifg (¬ z16.2 = 0) <| (f196 x0 z16.1).bind fun z19 => ifg (¬ z19.2 = 0) <| if x3 ≤ ((((irm v4 z6.2) - (irm x2 z9.2)) * ((irm v4 z6.2) - (irm x2 z9.2))) + (((v14 / z16.2) - (x2 / z19.2)) * ((v14 / z16.2) - (x2 / z19.2)))) then (f203_88 x0 x1 x2 x4 x3 z19.1) else (f203_88 x0 x1 x2 x4 ((((irm v4 z6.2) - (irm x2 z9.2)) * ((irm v4 z6.2) - (irm x2 z9.2))) + (((v14 / z16.2) - (x2 / z19.2)) * ((v14 / z16.2) - (x2 / z19.2)))) z19.1))
set_option maxRecDepth 20000 in
theorem s203_7 {sc : Option (Nat × (Nat → Int32))} {x0 : Nat} {x1 : Int32} {x2 : Int32} {x3 : Int32} {x4 : Int32} {s : xS} {o : xH × Option Value} {r : ((Int32 × Int32 × xS) ⊕ (xS × Int32))} (k0 : oK x0 12 = true) (h : f203_7 x0 x1 x2 x3 x4 s = some r) (hr : dn203_7 sc x0 x1 x2 o r) : Ev sc 2 203 [] 7 [some (.ref x0), some (.int x1), some (.int x2), some (.int x3), some (.int x4), none, none, none] [] (hk_of s) o := by
  unfold f203_7 at h
  refine E_blk rfl ?_
  refine E_ps 2 (pc' := 10) (l' := [some (.ref x0), some (.int x1), some (.int x2), some (.int x3), some (.int x4), none, none, none]) (st' := [.int (3 : Int32), .int x4]) rfl ?_
  by_cases c1 : (3 : Int32) ≤ x4
  · rw [if_pos c1] at h
    refine E_jt rfl rfl c1 ?_
    obtain ⟨r, h, hr⟩ := lf_some (Dn := dn203_7 sc x0 x1 x2 o) h hr
    refine E_blk rfl ?_
    refine E_ps 1 (pc' := 96) (l' := [some (.ref x0), some (.int x1), some (.int x2), some (.int x3), some (.int x4), none, none, none]) (st' := [.int x3]) rfl ?_
    cases h
    exact E_ret rfl (pg_mt_md (by decide)) rfl hr
  · rw [if_neg c1] at h
    refine E_jf rfl rfl c1 ?_
    refine E_blk rfl ?_
    refine E_ps 1 (pc' := 14) (l' := [some (.ref x0), some (.int x1), some (.int x2), some (.int x3), some (.int x4), none, none, none]) (st' := [.ref x0]) rfl ?_
    obtain ⟨a2, e3, h⟩ := Option.bind_eq_some_iff.mp h
    refine E_gr k0 (by decide) rfl e3 ?_
    refine E_ps 5 (pc' := 23) (l' := [some (.ref x0), some (.int x1), some (.int x2), some (.int x3), some (.int x4), none, none, none]) (st' := [.int (((3 : Int32) * x1) + x4), .ref a2]) rfl ?_
    obtain ⟨v4, e5, h⟩ := Option.bind_eq_some_iff.mp h
    refine E_ai e5 ?_
    refine E_ps 1 (pc' := 25) (l' := [some (.ref x0), some (.int x1), some (.int x2), some (.int x3), some (.int x4), none, none, none]) (st' := [.ref x0, .int v4]) rfl ?_
    obtain ⟨z6, e7, h⟩ := Option.bind_eq_some_iff.mp h
    refine E_callI (vs := [.ref x0]) (rest := [.int v4]) rfl (by decide) rfl rfl (Nat.le_of_ble_eq_true rfl) (s196 e7) (by decide) ?_
    obtain ⟨g8, h⟩ := ifg_some h
    refine E_irem g8 ?_
    refine E_ps 2 (pc' := 31) (l' := [some (.ref x0), some (.int x1), some (.int x2), some (.int x3), some (.int x4), none, none, none]) (st' := [.ref x0, .int x2, .int (irm v4 z6.2)]) rfl ?_
    obtain ⟨z9, e10, h⟩ := Option.bind_eq_some_iff.mp h
    refine E_callI (vs := [.ref x0]) (rest := [.int x2, .int (irm v4 z6.2)]) rfl (by decide) rfl rfl (Nat.le_of_ble_eq_true rfl) (s196 e10) (by decide) ?_
    obtain ⟨g11, h⟩ := ifg_some h
    refine E_irem g11 ?_
    refine E_ps 3 (pc' := 39) (l' := [some (.ref x0), some (.int x1), some (.int x2), some (.int x3), some (.int x4), some (.int ((irm v4 z6.2) - (irm x2 z9.2))), none, none]) (st' := [.ref x0]) rfl ?_
    obtain ⟨a12, e13, h⟩ := Option.bind_eq_some_iff.mp h
    refine E_gr k0 (by decide) rfl e13 ?_
    refine E_ps 5 (pc' := 48) (l' := [some (.ref x0), some (.int x1), some (.int x2), some (.int x3), some (.int x4), some (.int ((irm v4 z6.2) - (irm x2 z9.2))), none, none]) (st' := [.int (((3 : Int32) * x1) + x4), .ref a12]) rfl ?_
    obtain ⟨v14, e15, h⟩ := Option.bind_eq_some_iff.mp h
    refine E_ai e15 ?_
    refine E_ps 1 (pc' := 50) (l' := [some (.ref x0), some (.int x1), some (.int x2), some (.int x3), some (.int x4), some (.int ((irm v4 z6.2) - (irm x2 z9.2))), none, none]) (st' := [.ref x0, .int v14]) rfl ?_
    obtain ⟨z16, e17, h⟩ := Option.bind_eq_some_iff.mp h
    refine E_callI (vs := [.ref x0]) (rest := [.int v14]) rfl (by decide) rfl rfl (Nat.le_of_ble_eq_true rfl) (s196 e17) (by decide) ?_
    obtain ⟨g18, h⟩ := ifg_some h
    refine E_idiv g18 ?_
    refine E_ps 2 (pc' := 56) (l' := [some (.ref x0), some (.int x1), some (.int x2), some (.int x3), some (.int x4), some (.int ((irm v4 z6.2) - (irm x2 z9.2))), none, none]) (st' := [.ref x0, .int x2, .int (v14 / z16.2)]) rfl ?_
    obtain ⟨z19, e20, h⟩ := Option.bind_eq_some_iff.mp h
    refine E_callI (vs := [.ref x0]) (rest := [.int x2, .int (v14 / z16.2)]) rfl (by decide) rfl rfl (Nat.le_of_ble_eq_true rfl) (s196 e20) (by decide) ?_
    obtain ⟨g21, h⟩ := ifg_some h
    refine E_idiv g21 ?_
    refine E_ps 12 (pc' := 79) (l' := [some (.ref x0), some (.int x1), some (.int x2), some (.int x3), some (.int x4), some (.int ((irm v4 z6.2) - (irm x2 z9.2))), some (.int ((v14 / z16.2) - (x2 / z19.2))), some (.int ((((irm v4 z6.2) - (irm x2 z9.2)) * ((irm v4 z6.2) - (irm x2 z9.2))) + (((v14 / z16.2) - (x2 / z19.2)) * ((v14 / z16.2) - (x2 / z19.2)))))]) (st' := [.int x3, .int ((((irm v4 z6.2) - (irm x2 z9.2)) * ((irm v4 z6.2) - (irm x2 z9.2))) + (((v14 / z16.2) - (x2 / z19.2)) * ((v14 / z16.2) - (x2 / z19.2))))]) rfl ?_
    by_cases c22 : x3 ≤ ((((irm v4 z6.2) - (irm x2 z9.2)) * ((irm v4 z6.2) - (irm x2 z9.2))) + (((v14 / z16.2) - (x2 / z19.2)) * ((v14 / z16.2) - (x2 / z19.2))))
    · rw [if_pos c22] at h
      refine E_jt rfl rfl c22 ?_
      refine E_blk rfl ?_
      refine E_ps 1 (pc' := 88) (l' := [some (.ref x0), some (.int x1), some (.int x2), some (.int x3), some (.int x4), some (.int ((irm v4 z6.2) - (irm x2 z9.2))), some (.int ((v14 / z16.2) - (x2 / z19.2))), some (.int ((((irm v4 z6.2) - (irm x2 z9.2)) * ((irm v4 z6.2) - (irm x2 z9.2))) + (((v14 / z16.2) - (x2 / z19.2)) * ((v14 / z16.2) - (x2 / z19.2)))))]) (st' := [.int x3]) rfl ?_
      exact E_wk (l' := [some (.ref x0), some (.int x1), some (.int x2), none, some (.int x4), none, none, none]) ⟨rfl, rfl, rfl, rfl, trivial⟩ (s203_88 k0 h hr)
    · rw [if_neg c22] at h
      refine E_jf rfl rfl c22 ?_
      refine E_blk rfl ?_
      refine E_ps 1 (pc' := 84) (l' := [some (.ref x0), some (.int x1), some (.int x2), some (.int x3), some (.int x4), some (.int ((irm v4 z6.2) - (irm x2 z9.2))), some (.int ((v14 / z16.2) - (x2 / z19.2))), some (.int ((((irm v4 z6.2) - (irm x2 z9.2)) * ((irm v4 z6.2) - (irm x2 z9.2))) + (((v14 / z16.2) - (x2 / z19.2)) * ((v14 / z16.2) - (x2 / z19.2)))))]) (st' := [.int ((((irm v4 z6.2) - (irm x2 z9.2)) * ((irm v4 z6.2) - (irm x2 z9.2))) + (((v14 / z16.2) - (x2 / z19.2)) * ((v14 / z16.2) - (x2 / z19.2))))]) rfl ?_
      refine E_j rfl rfl ?_
      exact E_wk (l' := [some (.ref x0), some (.int x1), some (.int x2), none, some (.int x4), none, none, none]) ⟨rfl, rfl, rfl, rfl, trivial⟩ (s203_88 k0 h hr)
theorem s203_7_w {sc : Option (Nat × (Nat → Int32))} {x0 : Nat} {x1 : Int32} {x2 : Int32} {x3 : Int32} {x4 : Int32} {s : xS} {o : xH × Option Value} {r : (xS × Int32)} (k0 : oK x0 12 = true) (h : whl (fun q : (Int32 × Int32 × xS) => f203_7 x0 x1 x2 q.1 q.2.1 q.2.2) (x3, x4, s) = some r) (hr : dn203 o r) : Ev sc 2 203 [] 7 [some (.ref x0), some (.int x1), some (.int x2), some (.int x3), some (.int x4), none, none, none] [] (hk_of s) o := by
  refine whl_snd (E := fun q : (Int32 × Int32 × xS) => Ev sc 2 203 [] 7 [some (.ref x0), some (.int x1), some (.int x2), some (.int q.1), some (.int q.2.1), none, none, none] [] (hk_of q.2.2) o) (P := fun r => dn203 o r) (fun q r h hr => ?_) h hr
  exact s203_7 k0 h (by cases r <;> exact hr)
noncomputable def f203 (x0 : Nat) (x1 : Int32) (x2 : Int32) (s : xS) : Option (xS × Int32) := ifg (oK x0 12 = true) <| whl (fun q : (Int32 × Int32 × xS) => f203_7 x0 x1 x2 q.1 q.2.1 q.2.2) ((1000 : Int32), (0 : Int32), s)
set_option maxRecDepth 20000 in
theorem s203 {sc : Option (Nat × (Nat → Int32))} {x0 : Nat} {x1 : Int32} {x2 : Int32} {s : xS} {r : xS × Int32} (h : f203 x0 x1 x2 s = some r) : Cl sc 2 203 [.ref x0, .int x1, .int x2] (hk_of s) (hk_of r.1, some (.int r.2)) := by
  unfold f203 at h
  obtain ⟨k0, h⟩ := ifg_some h
  refine ⟨pg_md 203, [some (.ref x0), some (.int x1), some (.int x2), none, none, none, none, none], pg_mt_md (by decide), (hk_rcv k0), rfl, ?_⟩
  generalize ho : ((hk_of r.1, some (Value.int r.2)) : xH × Option Value) = o
  have hr : dn203 o r := ho.symm
  refine E_blk rfl ?_
  refine E_ps 4 (pc' := 7) (l' := [some (.ref x0), some (.int x1), some (.int x2), some (.int (1000 : Int32)), some (.int (0 : Int32)), none, none, none]) (st' := []) rfl ?_
  exact E_wk (l' := [some (.ref x0), some (.int x1), some (.int x2), some (.int (1000 : Int32)), some (.int (0 : Int32)), none, none, none]) ⟨rfl, rfl, rfl, rfl, rfl, trivial⟩ (s203_7_w k0 h hr)

-- 202: ThreePlatesModel.seemOf(II)I
def dn202 (o : xH × Option Value) (r : xS × Int32) : Prop := o = (hk_of r.1, some (.int r.2))
noncomputable def f202_48 (y0 : Int32) (y1 : Int32) (s : xS) : Option (xS × Int32) := some (s, (y1 - y0))
set_option maxRecDepth 20000 in
theorem s202_48 {sc : Option (Nat × (Nat → Int32))} {y0 : Int32} {y1 : Int32} {s : xS} {o : xH × Option Value} {r : (xS × Int32)}  (h : f202_48 y0 y1 s = some r) (hr : dn202 o r) : Ev sc 3 202 [] 48 [none, none, none, none] [.int y0, .int y1] (hk_of s) o := by
  unfold f202_48 at h
  refine E_blk rfl ?_
  refine E_ps 1 (pc' := 49) (l' := [none, none, none, none]) (st' := [.int (y1 - y0)]) rfl ?_
  cases h
  exact E_ret rfl (pg_mt_md (by decide)) rfl hr
noncomputable def f202 (x0 : Nat) (x1 : Int32) (x2 : Int32) (s : xS) : Option (xS × Int32) := ifg (oK x0 12 = true) <| (hk_R x0 20).bind fun a1 => (aI s a1 (((25 : Int32) * x1) + x2)).bind fun v3 => (hk_R x0 21).bind fun a5 => (aI s a5 (((25 : Int32) * x1) + x2)).bind fun v7 => (hk_R x0 24).bind fun a9 => (aB s a9 x1).bind fun v11 => if v11 = 0 then (f202_48 (0 : Int32) (v3 + v7) s) else ((hk_R x0 23).bind fun a14 => (aI s a14 x1).bind fun v16 => (f203 x0 x1 x2 s).bind fun z18 => f202_48 ((v16 * z18.2) / (4 : Int32)) (v3 + v7) z18.1)
set_option maxRecDepth 20000 in
theorem s202 {sc : Option (Nat × (Nat → Int32))} {x0 : Nat} {x1 : Int32} {x2 : Int32} {s : xS} {r : xS × Int32} (h : f202 x0 x1 x2 s = some r) : Cl sc 3 202 [.ref x0, .int x1, .int x2] (hk_of s) (hk_of r.1, some (.int r.2)) := by
  unfold f202 at h
  obtain ⟨k0, h⟩ := ifg_some h
  refine ⟨pg_md 202, [some (.ref x0), some (.int x1), some (.int x2), none], pg_mt_md (by decide), (hk_rcv k0), rfl, ?_⟩
  generalize ho : ((hk_of r.1, some (Value.int r.2)) : xH × Option Value) = o
  have hr : dn202 o r := ho.symm
  refine E_blk rfl ?_
  refine E_ps 7 (pc' := 8) (l' := [some (.ref x0), some (.int x1), some (.int x2), some (.int (((25 : Int32) * x1) + x2))]) (st' := [.ref x0]) rfl ?_
  obtain ⟨a1, e2, h⟩ := Option.bind_eq_some_iff.mp h
  refine E_gr k0 (by decide) rfl e2 ?_
  refine E_ps 1 (pc' := 12) (l' := [some (.ref x0), some (.int x1), some (.int x2), some (.int (((25 : Int32) * x1) + x2))]) (st' := [.int (((25 : Int32) * x1) + x2), .ref a1]) rfl ?_
  obtain ⟨v3, e4, h⟩ := Option.bind_eq_some_iff.mp h
  refine E_ai e4 ?_
  refine E_ps 1 (pc' := 14) (l' := [some (.ref x0), some (.int x1), some (.int x2), some (.int (((25 : Int32) * x1) + x2))]) (st' := [.ref x0, .int v3]) rfl ?_
  obtain ⟨a5, e6, h⟩ := Option.bind_eq_some_iff.mp h
  refine E_gr k0 (by decide) rfl e6 ?_
  refine E_ps 1 (pc' := 18) (l' := [some (.ref x0), some (.int x1), some (.int x2), some (.int (((25 : Int32) * x1) + x2))]) (st' := [.int (((25 : Int32) * x1) + x2), .ref a5, .int v3]) rfl ?_
  obtain ⟨v7, e8, h⟩ := Option.bind_eq_some_iff.mp h
  refine E_ai e8 ?_
  refine E_ps 2 (pc' := 21) (l' := [some (.ref x0), some (.int x1), some (.int x2), some (.int (((25 : Int32) * x1) + x2))]) (st' := [.ref x0, .int (v3 + v7)]) rfl ?_
  obtain ⟨a9, e10, h⟩ := Option.bind_eq_some_iff.mp h
  refine E_gr k0 (by decide) rfl e10 ?_
  refine E_ps 1 (pc' := 25) (l' := [some (.ref x0), some (.int x1), some (.int x2), some (.int (((25 : Int32) * x1) + x2))]) (st' := [.int x1, .ref a9, .int (v3 + v7)]) rfl ?_
  obtain ⟨v11, e12, h⟩ := Option.bind_eq_some_iff.mp h
  refine E_ab e12 ?_
  by_cases c13 : v11 = 0
  · rw [if_pos c13] at h
    refine E_jt rfl rfl c13 ?_
    refine E_blk rfl ?_
    refine E_ps 1 (pc' := 48) (l' := [some (.ref x0), some (.int x1), some (.int x2), some (.int (((25 : Int32) * x1) + x2))]) (st' := [.int (0 : Int32), .int (v3 + v7)]) rfl ?_
    exact E_wk (l' := [none, none, none, none]) trivial (s202_48  h hr)
  · rw [if_neg c13] at h
    refine E_jf rfl rfl c13 ?_
    refine E_blk rfl ?_
    refine E_ps 1 (pc' := 30) (l' := [some (.ref x0), some (.int x1), some (.int x2), some (.int (((25 : Int32) * x1) + x2))]) (st' := [.ref x0, .int (v3 + v7)]) rfl ?_
    obtain ⟨a14, e15, h⟩ := Option.bind_eq_some_iff.mp h
    refine E_gr k0 (by decide) rfl e15 ?_
    refine E_ps 1 (pc' := 34) (l' := [some (.ref x0), some (.int x1), some (.int x2), some (.int (((25 : Int32) * x1) + x2))]) (st' := [.int x1, .ref a14, .int (v3 + v7)]) rfl ?_
    obtain ⟨v16, e17, h⟩ := Option.bind_eq_some_iff.mp h
    refine E_ai e17 ?_
    refine E_ps 3 (pc' := 38) (l' := [some (.ref x0), some (.int x1), some (.int x2), some (.int (((25 : Int32) * x1) + x2))]) (st' := [.int x2, .int x1, .ref x0, .int v16, .int (v3 + v7)]) rfl ?_
    obtain ⟨z18, e19, h⟩ := Option.bind_eq_some_iff.mp h
    refine E_callI (vs := [.ref x0, .int x1, .int x2]) (rest := [.int v16, .int (v3 + v7)]) rfl (by decide) rfl rfl (Nat.le_of_ble_eq_true rfl) (s203 e19) (by decide) ?_
    refine E_ps 2 (pc' := 43) (l' := [some (.ref x0), some (.int x1), some (.int x2), some (.int (((25 : Int32) * x1) + x2))]) (st' := [.int (4 : Int32), .int (v16 * z18.2), .int (v3 + v7)]) rfl ?_
    refine E_idiv (by decide) ?_
    refine E_j rfl rfl ?_
    exact E_wk (l' := [none, none, none, none]) trivial (s202_48  h hr)

-- 201: ThreePlatesModel.seems(II)I
def dn201 (o : xH × Option Value) (r : xS × Int32) : Prop := o = (hk_of r.1, some (.int r.2))
noncomputable def f201_21 (y0 : Int32) (s : xS) : Option (xS × Int32) := some (s, y0)
set_option maxRecDepth 20000 in
theorem s201_21 {sc : Option (Nat × (Nat → Int32))} {y0 : Int32} {s : xS} {o : xH × Option Value} {r : (xS × Int32)}  (h : f201_21 y0 s = some r) (hr : dn201 o r) : Ev sc 4 201 [] 21 [none, none, none] [.int y0] (hk_of s) o := by
  unfold f201_21 at h
  refine E_blk rfl ?_
  cases h
  exact E_ret rfl (pg_mt_md (by decide)) rfl hr
noncomputable def f201 (x0 : Nat) (x1 : Int32) (x2 : Int32) (s : xS) : Option (xS × Int32) := ifg (oK x0 12 = true) <| (f199 x0 x1 x2 s).bind fun z1 => if z1.2 = 0 then (f201_21 (-100000 : Int32) z1.1) else ((f202 x0 x1 x2 z1.1).bind fun z4 => f201_21 z4.2 z4.1)
set_option maxRecDepth 20000 in
theorem s201 {sc : Option (Nat × (Nat → Int32))} {x0 : Nat} {x1 : Int32} {x2 : Int32} {s : xS} {r : xS × Int32} (h : f201 x0 x1 x2 s = some r) : Cl sc 4 201 [.ref x0, .int x1, .int x2] (hk_of s) (hk_of r.1, some (.int r.2)) := by
  unfold f201 at h
  obtain ⟨k0, h⟩ := ifg_some h
  refine ⟨pg_md 201, [some (.ref x0), some (.int x1), some (.int x2)], pg_mt_md (by decide), (hk_rcv k0), rfl, ?_⟩
  generalize ho : ((hk_of r.1, some (Value.int r.2)) : xH × Option Value) = o
  have hr : dn201 o r := ho.symm
  refine E_blk rfl ?_
  refine E_ps 3 (pc' := 3) (l' := [some (.ref x0), some (.int x1), some (.int x2)]) (st' := [.int x2, .int x1, .ref x0]) rfl ?_
  obtain ⟨z1, e2, h⟩ := Option.bind_eq_some_iff.mp h
  refine E_callI (vs := [.ref x0, .int x1, .int x2]) (rest := []) rfl (by decide) rfl rfl (Nat.le_of_ble_eq_true rfl) (s199 e2) (by decide) ?_
  by_cases c3 : z1.2 = 0
  · rw [if_pos c3] at h
    refine E_jt rfl rfl c3 ?_
    refine E_blk rfl ?_
    refine E_ps 1 (pc' := 21) (l' := [some (.ref x0), some (.int x1), some (.int x2)]) (st' := [.int (-100000 : Int32)]) rfl ?_
    exact E_wk (l' := [none, none, none]) trivial (s201_21  h hr)
  · rw [if_neg c3] at h
    refine E_jf rfl rfl c3 ?_
    refine E_blk rfl ?_
    refine E_ps 3 (pc' := 12) (l' := [some (.ref x0), some (.int x1), some (.int x2)]) (st' := [.int x2, .int x1, .ref x0]) rfl ?_
    obtain ⟨z4, e5, h⟩ := Option.bind_eq_some_iff.mp h
    refine E_callI (vs := [.ref x0, .int x1, .int x2]) (rest := []) rfl (by decide) rfl rfl (Nat.le_of_ble_eq_true rfl) (s202 e5) (by decide) ?_
    refine E_j rfl rfl ?_
    exact E_wk (l' := [none, none, none]) trivial (s201_21  h hr)

-- 204: ThreePlatesModel.stand(IIIII)Z
def dn204 (o : xH × Option Value) (r : xS × Int32) : Prop := o = (hk_of r.1, some (.int r.2))
noncomputable def f204_56  (s : xS) : Option (xS × Int32) := some (s, (0 : Int32))
set_option maxRecDepth 20000 in
theorem s204_56 {sc : Option (Nat × (Nat → Int32))}  {s : xS} {o : xH × Option Value} {r : (xS × Int32)}  (h : f204_56  s = some r) (hr : dn204 o r) : Ev sc 4 204 [] 56 [none, none, none, none, none, none] [] (hk_of s) o := by
  unfold f204_56 at h
  refine E_blk rfl ?_
  refine E_ps 1 (pc' := 57) (l' := [none, none, none, none, none, none]) (st' := [.int (0 : Int32)]) rfl ?_
  cases h
  exact E_ret rfl (pg_mt_md (by decide)) rfl hr
noncomputable def f204 (x0 : Nat) (x1 : Int32) (x2 : Int32) (x3 : Int32) (x4 : Int32) (x5 : Int32) (s : xS) : Option (xS × Int32) := ifg (oK x0 12 = true) <| (f199 x0 x1 x2 s).bind fun z1 => if z1.2 = 0 then (f204_56  z1.1) else ((f199 x0 x1 x3 z1.1).bind fun z4 => if z4.2 = 0 then (f204_56  z4.1) else ((f199 x0 x1 x4 z4.1).bind fun z7 => if z7.2 = 0 then (f204_56  z7.1) else (if x2 = x3 then (f204_56  z7.1) else (if x3 = x4 then (f204_56  z7.1) else (if x2 = x4 then (f204_56  z7.1) else ((f195 x5 (0 : Int32) (9 : Int32) z7.1).bind fun z13 => if z13.2 = 0 then (f204_56  z13.1) else ((hk_R x0 24).bind fun a16 => (wB z13.1 a16 x1 (1 : Int32)).bind fun t18 => (hk_R x0 22).bind fun a20 => (wI t18 a20 ((3 : Int32) * x1) x2).bind fun t22 => (hk_R x0 22).bind fun a24 => (wI t22 a24 (((3 : Int32) * x1) + (1 : Int32)) x3).bind fun t26 => (hk_R x0 22).bind fun a28 => (wI t26 a28 (((3 : Int32) * x1) + (2 : Int32)) x4).bind fun t30 => (hk_R x0 23).bind fun a32 => (wI t30 a32 x1 x5).bind fun t34 => some (t34, (1 : Int32)))))))))
set_option maxRecDepth 20000 in
theorem s204 {sc : Option (Nat × (Nat → Int32))} {x0 : Nat} {x1 : Int32} {x2 : Int32} {x3 : Int32} {x4 : Int32} {x5 : Int32} {s : xS} {r : xS × Int32} (h : f204 x0 x1 x2 x3 x4 x5 s = some r) : Cl sc 4 204 [.ref x0, .int x1, .int x2, .int x3, .int x4, .int x5] (hk_of s) (hk_of r.1, some (.int r.2)) := by
  unfold f204 at h
  obtain ⟨k0, h⟩ := ifg_some h
  refine ⟨pg_md 204, [some (.ref x0), some (.int x1), some (.int x2), some (.int x3), some (.int x4), some (.int x5)], pg_mt_md (by decide), (hk_rcv k0), rfl, ?_⟩
  generalize ho : ((hk_of r.1, some (Value.int r.2)) : xH × Option Value) = o
  have hr : dn204 o r := ho.symm
  refine E_blk rfl ?_
  refine E_ps 3 (pc' := 3) (l' := [some (.ref x0), some (.int x1), some (.int x2), some (.int x3), some (.int x4), some (.int x5)]) (st' := [.int x2, .int x1, .ref x0]) rfl ?_
  obtain ⟨z1, e2, h⟩ := Option.bind_eq_some_iff.mp h
  refine E_callI (vs := [.ref x0, .int x1, .int x2]) (rest := []) rfl (by decide) rfl rfl (Nat.le_of_ble_eq_true rfl) (s199 e2) (by decide) ?_
  by_cases c3 : z1.2 = 0
  · rw [if_pos c3] at h
    refine E_jt rfl rfl c3 ?_
    exact E_wk (l' := [none, none, none, none, none, none]) trivial (s204_56  h hr)
  · rw [if_neg c3] at h
    refine E_jf rfl rfl c3 ?_
    refine E_blk rfl ?_
    refine E_ps 3 (pc' := 12) (l' := [some (.ref x0), some (.int x1), some (.int x2), some (.int x3), some (.int x4), some (.int x5)]) (st' := [.int x3, .int x1, .ref x0]) rfl ?_
    obtain ⟨z4, e5, h⟩ := Option.bind_eq_some_iff.mp h
    refine E_callI (vs := [.ref x0, .int x1, .int x3]) (rest := []) rfl (by decide) rfl rfl (Nat.le_of_ble_eq_true rfl) (s199 e5) (by decide) ?_
    by_cases c6 : z4.2 = 0
    · rw [if_pos c6] at h
      refine E_jt rfl rfl c6 ?_
      exact E_wk (l' := [none, none, none, none, none, none]) trivial (s204_56  h hr)
    · rw [if_neg c6] at h
      refine E_jf rfl rfl c6 ?_
      refine E_blk rfl ?_
      refine E_ps 3 (pc' := 22) (l' := [some (.ref x0), some (.int x1), some (.int x2), some (.int x3), some (.int x4), some (.int x5)]) (st' := [.int x4, .int x1, .ref x0]) rfl ?_
      obtain ⟨z7, e8, h⟩ := Option.bind_eq_some_iff.mp h
      refine E_callI (vs := [.ref x0, .int x1, .int x4]) (rest := []) rfl (by decide) rfl rfl (Nat.le_of_ble_eq_true rfl) (s199 e8) (by decide) ?_
      by_cases c9 : z7.2 = 0
      · rw [if_pos c9] at h
        refine E_jt rfl rfl c9 ?_
        exact E_wk (l' := [none, none, none, none, none, none]) trivial (s204_56  h hr)
      · rw [if_neg c9] at h
        refine E_jf rfl rfl c9 ?_
        refine E_blk rfl ?_
        refine E_ps 2 (pc' := 30) (l' := [some (.ref x0), some (.int x1), some (.int x2), some (.int x3), some (.int x4), some (.int x5)]) (st' := [.int x3, .int x2]) rfl ?_
        by_cases c10 : x2 = x3
        · rw [if_pos c10] at h
          refine E_jt rfl rfl c10 ?_
          exact E_wk (l' := [none, none, none, none, none, none]) trivial (s204_56  h hr)
        · rw [if_neg c10] at h
          refine E_jf rfl rfl c10 ?_
          refine E_blk rfl ?_
          refine E_ps 2 (pc' := 36) (l' := [some (.ref x0), some (.int x1), some (.int x2), some (.int x3), some (.int x4), some (.int x5)]) (st' := [.int x4, .int x3]) rfl ?_
          by_cases c11 : x3 = x4
          · rw [if_pos c11] at h
            refine E_jt rfl rfl c11 ?_
            exact E_wk (l' := [none, none, none, none, none, none]) trivial (s204_56  h hr)
          · rw [if_neg c11] at h
            refine E_jf rfl rfl c11 ?_
            refine E_blk rfl ?_
            refine E_ps 2 (pc' := 42) (l' := [some (.ref x0), some (.int x1), some (.int x2), some (.int x3), some (.int x4), some (.int x5)]) (st' := [.int x4, .int x2]) rfl ?_
            by_cases c12 : x2 = x4
            · rw [if_pos c12] at h
              refine E_jt rfl rfl c12 ?_
              exact E_wk (l' := [none, none, none, none, none, none]) trivial (s204_56  h hr)
            · rw [if_neg c12] at h
              refine E_jf rfl rfl c12 ?_
              refine E_blk rfl ?_
              refine E_ps 3 (pc' := 50) (l' := [some (.ref x0), some (.int x1), some (.int x2), some (.int x3), some (.int x4), some (.int x5)]) (st' := [.int (9 : Int32), .int (0 : Int32), .int x5]) rfl ?_
              obtain ⟨z13, e14, h⟩ := Option.bind_eq_some_iff.mp h
              refine E_callI (vs := [.int x5, .int (0 : Int32), .int (9 : Int32)]) (rest := []) rfl (by decide) rfl rfl (Nat.le_of_ble_eq_true rfl) (s195 e14) (by decide) ?_
              by_cases c15 : z13.2 = 0
              · rw [if_pos c15] at h
                refine E_jt rfl rfl c15 ?_
                exact E_wk (l' := [none, none, none, none, none, none]) trivial (s204_56  h hr)
              · rw [if_neg c15] at h
                refine E_jf rfl rfl c15 ?_
                refine E_blk rfl ?_
                refine E_ps 1 (pc' := 59) (l' := [some (.ref x0), some (.int x1), some (.int x2), some (.int x3), some (.int x4), some (.int x5)]) (st' := [.ref x0]) rfl ?_
                obtain ⟨a16, e17, h⟩ := Option.bind_eq_some_iff.mp h
                refine E_gr k0 (by decide) rfl e17 ?_
                refine E_ps 2 (pc' := 64) (l' := [some (.ref x0), some (.int x1), some (.int x2), some (.int x3), some (.int x4), some (.int x5)]) (st' := [.int (1 : Int32), .int x1, .ref a16]) rfl ?_
                obtain ⟨t18, e19, h⟩ := Option.bind_eq_some_iff.mp h
                refine E_wb e19 ?_
                refine E_ps 1 (pc' := 66) (l' := [some (.ref x0), some (.int x1), some (.int x2), some (.int x3), some (.int x4), some (.int x5)]) (st' := [.ref x0]) rfl ?_
                obtain ⟨a20, e21, h⟩ := Option.bind_eq_some_iff.mp h
                refine E_gr k0 (by decide) rfl e21 ?_
                refine E_ps 4 (pc' := 73) (l' := [some (.ref x0), some (.int x1), some (.int x2), some (.int x3), some (.int x4), some (.int x5)]) (st' := [.int x2, .int ((3 : Int32) * x1), .ref a20]) rfl ?_
                obtain ⟨t22, e23, h⟩ := Option.bind_eq_some_iff.mp h
                refine E_wi e23 ?_
                refine E_ps 1 (pc' := 75) (l' := [some (.ref x0), some (.int x1), some (.int x2), some (.int x3), some (.int x4), some (.int x5)]) (st' := [.ref x0]) rfl ?_
                obtain ⟨a24, e25, h⟩ := Option.bind_eq_some_iff.mp h
                refine E_gr k0 (by decide) rfl e25 ?_
                refine E_ps 6 (pc' := 84) (l' := [some (.ref x0), some (.int x1), some (.int x2), some (.int x3), some (.int x4), some (.int x5)]) (st' := [.int x3, .int (((3 : Int32) * x1) + (1 : Int32)), .ref a24]) rfl ?_
                obtain ⟨t26, e27, h⟩ := Option.bind_eq_some_iff.mp h
                refine E_wi e27 ?_
                refine E_ps 1 (pc' := 86) (l' := [some (.ref x0), some (.int x1), some (.int x2), some (.int x3), some (.int x4), some (.int x5)]) (st' := [.ref x0]) rfl ?_
                obtain ⟨a28, e29, h⟩ := Option.bind_eq_some_iff.mp h
                refine E_gr k0 (by decide) rfl e29 ?_
                refine E_ps 6 (pc' := 96) (l' := [some (.ref x0), some (.int x1), some (.int x2), some (.int x3), some (.int x4), some (.int x5)]) (st' := [.int x4, .int (((3 : Int32) * x1) + (2 : Int32)), .ref a28]) rfl ?_
                obtain ⟨t30, e31, h⟩ := Option.bind_eq_some_iff.mp h
                refine E_wi e31 ?_
                refine E_ps 1 (pc' := 98) (l' := [some (.ref x0), some (.int x1), some (.int x2), some (.int x3), some (.int x4), some (.int x5)]) (st' := [.ref x0]) rfl ?_
                obtain ⟨a32, e33, h⟩ := Option.bind_eq_some_iff.mp h
                refine E_gr k0 (by decide) rfl e33 ?_
                refine E_ps 2 (pc' := 104) (l' := [some (.ref x0), some (.int x1), some (.int x2), some (.int x3), some (.int x4), some (.int x5)]) (st' := [.int x5, .int x1, .ref a32]) rfl ?_
                obtain ⟨t34, e35, h⟩ := Option.bind_eq_some_iff.mp h
                refine E_wi e35 ?_
                refine E_ps 1 (pc' := 106) (l' := [some (.ref x0), some (.int x1), some (.int x2), some (.int x3), some (.int x4), some (.int x5)]) (st' := [.int (1 : Int32)]) rfl ?_
                cases h
                exact E_ret rfl (pg_mt_md (by decide)) rfl hr

-- 205: ThreePlatesModel.comesTo(IIII)I
def dn205 (o : xH × Option Value) (r : xS × Int32) : Prop := o = (hk_of r.1, some (.int r.2))
def dn205_26 (sc : Option (Nat × (Nat → Int32))) (x0 : Nat) (x2 : Int32) (x3 : Int32) (x4 : Int32) (o : xH × Option Value) (r : ((Int32 × Int32 × Int32 × xS) ⊕ (xS × Int32))) : Prop := match r with
  | .inl q => Ev sc 2 205 [] 26 [some (.ref x0), none, some (.int x2), some (.int x3), some (.int x4), some (.int q.1), some (.int q.2.1), some (.int q.2.2.1), none] [] (hk_of q.2.2.2) o
  | .inr r => dn205 o r
noncomputable def f205_114 (y0 : Int32) (s : xS) : Option (xS × Int32) := some (s, y0)
set_option maxRecDepth 20000 in
theorem s205_114 {sc : Option (Nat × (Nat → Int32))} {y0 : Int32} {s : xS} {o : xH × Option Value} {r : (xS × Int32)}  (h : f205_114 y0 s = some r) (hr : dn205 o r) : Ev sc 2 205 [] 114 [none, none, none, none, none, none, none, none, none] [.int y0] (hk_of s) o := by
  unfold f205_114 at h
  refine E_blk rfl ?_
  cases h
  exact E_ret rfl (pg_mt_md (by decide)) rfl hr
noncomputable def f205_113  (s : xS) : Option (xS × Int32) := f205_114 (-1 : Int32) s
set_option maxRecDepth 20000 in
theorem s205_113 {sc : Option (Nat × (Nat → Int32))}  {s : xS} {o : xH × Option Value} {r : (xS × Int32)}  (h : f205_113  s = some r) (hr : dn205 o r) : Ev sc 2 205 [] 113 [none, none, none, none, none, none, none, none, none] [] (hk_of s) o := by
  unfold f205_113 at h
  refine E_blk rfl ?_
  refine E_ps 1 (pc' := 114) (l' := [none, none, none, none, none, none, none, none, none]) (st' := [.int (-1 : Int32)]) rfl ?_
  exact E_wk (l' := [none, none, none, none, none, none, none, none, none]) trivial (s205_114  h hr)
noncomputable def f205_26 (x0 : Nat) (x2 : Int32) (x3 : Int32) (x4 : Int32) (x5 : Int32) (x6 : Int32) (x7 : Int32) (s : xS) : Option ((Int32 × Int32 × Int32 × xS) ⊕ (xS × Int32)) := if x2 ≤ x7 then (Option.map Sum.inr ((f196 x0 s).bind fun z2 => (f195 (x5 + x3) (0 : Int32) (z2.2 - (1 : Int32)) z2.1).bind fun z4 => if z4.2 = 0 then (f205_113  z4.1) else ((f196 x0 z4.1).bind fun z7 => (f195 (x6 + x4) (0 : Int32) (z7.2 - (1 : Int32)) z7.1).bind fun z9 => if z9.2 = 0 then (f205_113  z9.1) else ((f196 x0 z9.1).bind fun z12 => f205_114 ((z12.2 * (x6 + x4)) + (x5 + x3)) z12.1)))) else ((f196 x0 s).bind fun z14 => some (Sum.inl (((z14.2 - (1 : Int32)) - x6), x5, (x7 + (1 : Int32)), z14.1)))
set_option maxRecDepth 20000 in
theorem s205_26 {sc : Option (Nat × (Nat → Int32))} {x0 : Nat} {x2 : Int32} {x3 : Int32} {x4 : Int32} {x5 : Int32} {x6 : Int32} {x7 : Int32} {s : xS} {o : xH × Option Value} {r : ((Int32 × Int32 × Int32 × xS) ⊕ (xS × Int32))} (k0 : oK x0 12 = true) (h : f205_26 x0 x2 x3 x4 x5 x6 x7 s = some r) (hr : dn205_26 sc x0 x2 x3 x4 o r) : Ev sc 2 205 [] 26 [some (.ref x0), none, some (.int x2), some (.int x3), some (.int x4), some (.int x5), some (.int x6), some (.int x7), none] [] (hk_of s) o := by
  unfold f205_26 at h
  refine E_blk rfl ?_
  refine E_ps 2 (pc' := 29) (l' := [some (.ref x0), none, some (.int x2), some (.int x3), some (.int x4), some (.int x5), some (.int x6), some (.int x7), none]) (st' := [.int x2, .int x7]) rfl ?_
  by_cases c1 : x2 ≤ x7
  · rw [if_pos c1] at h
    refine E_jt rfl rfl c1 ?_
    obtain ⟨r, h, hr⟩ := lf_some (Dn := dn205_26 sc x0 x2 x3 x4 o) h hr
    refine E_blk rfl ?_
    refine E_ps 11 (pc' := 74) (l' := [some (.ref x0), none, some (.int x2), some (.int x3), some (.int x4), some (.int (x5 + x3)), some (.int (x6 + x4)), some (.int x7), none]) (st' := [.ref x0, .int (0 : Int32), .int (x5 + x3)]) rfl ?_
    obtain ⟨z2, e3, h⟩ := Option.bind_eq_some_iff.mp h
    refine E_callI (vs := [.ref x0]) (rest := [.int (0 : Int32), .int (x5 + x3)]) rfl (by decide) rfl rfl (Nat.le_of_ble_eq_true rfl) (s196 e3) (by decide) ?_
    refine E_ps 2 (pc' := 79) (l' := [some (.ref x0), none, some (.int x2), some (.int x3), some (.int x4), some (.int (x5 + x3)), some (.int (x6 + x4)), some (.int x7), none]) (st' := [.int (z2.2 - (1 : Int32)), .int (0 : Int32), .int (x5 + x3)]) rfl ?_
    obtain ⟨z4, e5, h⟩ := Option.bind_eq_some_iff.mp h
    refine E_callI (vs := [.int (x5 + x3), .int (0 : Int32), .int (z2.2 - (1 : Int32))]) (rest := []) rfl (by decide) rfl rfl (Nat.le_of_ble_eq_true rfl) (s195 e5) (by decide) ?_
    by_cases c6 : z4.2 = 0
    · rw [if_pos c6] at h
      refine E_jt rfl rfl c6 ?_
      exact E_wk (l' := [none, none, none, none, none, none, none, none, none]) trivial (s205_113  h hr)
    · rw [if_neg c6] at h
      refine E_jf rfl rfl c6 ?_
      refine E_blk rfl ?_
      refine E_ps 3 (pc' := 89) (l' := [some (.ref x0), none, some (.int x2), some (.int x3), some (.int x4), some (.int (x5 + x3)), some (.int (x6 + x4)), some (.int x7), none]) (st' := [.ref x0, .int (0 : Int32), .int (x6 + x4)]) rfl ?_
      obtain ⟨z7, e8, h⟩ := Option.bind_eq_some_iff.mp h
      refine E_callI (vs := [.ref x0]) (rest := [.int (0 : Int32), .int (x6 + x4)]) rfl (by decide) rfl rfl (Nat.le_of_ble_eq_true rfl) (s196 e8) (by decide) ?_
      refine E_ps 2 (pc' := 94) (l' := [some (.ref x0), none, some (.int x2), some (.int x3), some (.int x4), some (.int (x5 + x3)), some (.int (x6 + x4)), some (.int x7), none]) (st' := [.int (z7.2 - (1 : Int32)), .int (0 : Int32), .int (x6 + x4)]) rfl ?_
      obtain ⟨z9, e10, h⟩ := Option.bind_eq_some_iff.mp h
      refine E_callI (vs := [.int (x6 + x4), .int (0 : Int32), .int (z7.2 - (1 : Int32))]) (rest := []) rfl (by decide) rfl rfl (Nat.le_of_ble_eq_true rfl) (s195 e10) (by decide) ?_
      by_cases c11 : z9.2 = 0
      · rw [if_pos c11] at h
        refine E_jt rfl rfl c11 ?_
        exact E_wk (l' := [none, none, none, none, none, none, none, none, none]) trivial (s205_113  h hr)
      · rw [if_neg c11] at h
        refine E_jf rfl rfl c11 ?_
        refine E_blk rfl ?_
        refine E_ps 1 (pc' := 101) (l' := [some (.ref x0), none, some (.int x2), some (.int x3), some (.int x4), some (.int (x5 + x3)), some (.int (x6 + x4)), some (.int x7), none]) (st' := [.ref x0]) rfl ?_
        obtain ⟨z12, e13, h⟩ := Option.bind_eq_some_iff.mp h
        refine E_callI (vs := [.ref x0]) (rest := []) rfl (by decide) rfl rfl (Nat.le_of_ble_eq_true rfl) (s196 e13) (by decide) ?_
        refine E_ps 4 (pc' := 110) (l' := [some (.ref x0), none, some (.int x2), some (.int x3), some (.int x4), some (.int (x5 + x3)), some (.int (x6 + x4)), some (.int x7), none]) (st' := [.int ((z12.2 * (x6 + x4)) + (x5 + x3))]) rfl ?_
        refine E_j rfl rfl ?_
        exact E_wk (l' := [none, none, none, none, none, none, none, none, none]) trivial (s205_114  h hr)
  · rw [if_neg c1] at h
    refine E_jf rfl rfl c1 ?_
    refine E_blk rfl ?_
    refine E_ps 3 (pc' := 37) (l' := [some (.ref x0), none, some (.int x2), some (.int x3), some (.int x4), some (.int x5), some (.int x6), some (.int x7), some (.int x5)]) (st' := [.ref x0]) rfl ?_
    obtain ⟨z14, e15, h⟩ := Option.bind_eq_some_iff.mp h
    refine E_callI (vs := [.ref x0]) (rest := []) rfl (by decide) rfl rfl (Nat.le_of_ble_eq_true rfl) (s196 e15) (by decide) ?_
    refine E_ps 8 (pc' := 54) (l' := [some (.ref x0), none, some (.int x2), some (.int x3), some (.int x4), some (.int ((z14.2 - (1 : Int32)) - x6)), some (.int x5), some (.int (x7 + (1 : Int32))), some (.int x5)]) (st' := []) rfl ?_
    refine E_j rfl rfl ?_
    cases h
    exact E_wk (l' := [some (.ref x0), none, some (.int x2), some (.int x3), some (.int x4), some (.int ((z14.2 - (1 : Int32)) - x6)), some (.int x5), some (.int (x7 + (1 : Int32))), none]) ⟨rfl, rfl, rfl, rfl, rfl, rfl, rfl, trivial⟩ hr
theorem s205_26_w {sc : Option (Nat × (Nat → Int32))} {x0 : Nat} {x2 : Int32} {x3 : Int32} {x4 : Int32} {x5 : Int32} {x6 : Int32} {x7 : Int32} {s : xS} {o : xH × Option Value} {r : (xS × Int32)} (k0 : oK x0 12 = true) (h : whl (fun q : (Int32 × Int32 × Int32 × xS) => f205_26 x0 x2 x3 x4 q.1 q.2.1 q.2.2.1 q.2.2.2) (x5, x6, x7, s) = some r) (hr : dn205 o r) : Ev sc 2 205 [] 26 [some (.ref x0), none, some (.int x2), some (.int x3), some (.int x4), some (.int x5), some (.int x6), some (.int x7), none] [] (hk_of s) o := by
  refine whl_snd (E := fun q : (Int32 × Int32 × Int32 × xS) => Ev sc 2 205 [] 26 [some (.ref x0), none, some (.int x2), some (.int x3), some (.int x4), some (.int q.1), some (.int q.2.1), some (.int q.2.2.1), none] [] (hk_of q.2.2.2) o) (P := fun r => dn205 o r) (fun q r h hr => ?_) h hr
  exact s205_26 k0 h (by cases r <;> exact hr)
noncomputable def f205 (x0 : Nat) (x1 : Int32) (x2 : Int32) (x3 : Int32) (x4 : Int32) (s : xS) : Option (xS × Int32) := ifg (oK x0 12 = true) <| (f196 x0 s).bind fun z1 => (f196 x0 z1.1).bind fun z3 => ifg (¬ z3.2 = 0) <| (f196 x0 z3.1).bind fun z6 => ifg (¬ z6.2 = 0) <| whl (fun q : (Int32 × Int32 × Int32 × xS) => f205_26 x0 x2 x3 x4 q.1 q.2.1 q.2.2.1 q.2.2.2) (((z1.2 - (1 : Int32)) - (irm x1 z3.2)), (x1 / z6.2), (0 : Int32), z6.1)
set_option maxRecDepth 20000 in
theorem s205 {sc : Option (Nat × (Nat → Int32))} {x0 : Nat} {x1 : Int32} {x2 : Int32} {x3 : Int32} {x4 : Int32} {s : xS} {r : xS × Int32} (h : f205 x0 x1 x2 x3 x4 s = some r) : Cl sc 2 205 [.ref x0, .int x1, .int x2, .int x3, .int x4] (hk_of s) (hk_of r.1, some (.int r.2)) := by
  unfold f205 at h
  obtain ⟨k0, h⟩ := ifg_some h
  refine ⟨pg_md 205, [some (.ref x0), some (.int x1), some (.int x2), some (.int x3), some (.int x4), none, none, none, none], pg_mt_md (by decide), (hk_rcv k0), rfl, ?_⟩
  generalize ho : ((hk_of r.1, some (Value.int r.2)) : xH × Option Value) = o
  have hr : dn205 o r := ho.symm
  refine E_blk rfl ?_
  refine E_ps 1 (pc' := 1) (l' := [some (.ref x0), some (.int x1), some (.int x2), some (.int x3), some (.int x4), none, none, none, none]) (st' := [.ref x0]) rfl ?_
  obtain ⟨z1, e2, h⟩ := Option.bind_eq_some_iff.mp h
  refine E_callI (vs := [.ref x0]) (rest := []) rfl (by decide) rfl rfl (Nat.le_of_ble_eq_true rfl) (s196 e2) (by decide) ?_
  refine E_ps 4 (pc' := 8) (l' := [some (.ref x0), some (.int x1), some (.int x2), some (.int x3), some (.int x4), none, none, none, none]) (st' := [.ref x0, .int x1, .int (z1.2 - (1 : Int32))]) rfl ?_
  obtain ⟨z3, e4, h⟩ := Option.bind_eq_some_iff.mp h
  refine E_callI (vs := [.ref x0]) (rest := [.int x1, .int (z1.2 - (1 : Int32))]) rfl (by decide) rfl rfl (Nat.le_of_ble_eq_true rfl) (s196 e4) (by decide) ?_
  obtain ⟨g5, h⟩ := ifg_some h
  refine E_irem g5 ?_
  refine E_ps 4 (pc' := 17) (l' := [some (.ref x0), some (.int x1), some (.int x2), some (.int x3), some (.int x4), some (.int ((z1.2 - (1 : Int32)) - (irm x1 z3.2))), none, none, none]) (st' := [.ref x0, .int x1]) rfl ?_
  obtain ⟨z6, e7, h⟩ := Option.bind_eq_some_iff.mp h
  refine E_callI (vs := [.ref x0]) (rest := [.int x1]) rfl (by decide) rfl rfl (Nat.le_of_ble_eq_true rfl) (s196 e7) (by decide) ?_
  obtain ⟨g8, h⟩ := ifg_some h
  refine E_idiv g8 ?_
  refine E_ps 3 (pc' := 26) (l' := [some (.ref x0), some (.int x1), some (.int x2), some (.int x3), some (.int x4), some (.int ((z1.2 - (1 : Int32)) - (irm x1 z3.2))), some (.int (x1 / z6.2)), some (.int (0 : Int32)), none]) (st' := []) rfl ?_
  exact E_wk (l' := [some (.ref x0), none, some (.int x2), some (.int x3), some (.int x4), some (.int ((z1.2 - (1 : Int32)) - (irm x1 z3.2))), some (.int (x1 / z6.2)), some (.int (0 : Int32)), none]) ⟨rfl, rfl, rfl, rfl, rfl, rfl, rfl, trivial⟩ (s205_26_w k0 h hr)

-- 206: ThreePlatesModel.layOn(IIIII)V
def dn206 (o : xH × Option Value) (r : xS × Unit) : Prop := o = (hk_of r.1, none)
def dn206_3 (sc : Option (Nat × (Nat → Int32))) (x0 : Nat) (x1 : Int32) (x2 : Int32) (x3 : Int32) (x4 : Int32) (x5 : Int32) (o : xH × Option Value) (r : ((Int32 × xS) ⊕ (xS × Unit))) : Prop := match r with
  | .inl q => Ev sc 4 206 [] 3 [some (.ref x0), some (.int x1), some (.int x2), some (.int x3), some (.int x4), some (.int x5), some (.int q.1), none] [] (hk_of q.2) o
  | .inr r => dn206 o r
def dn206_32 (sc : Option (Nat × (Nat → Int32))) (x0 : Nat) (x1 : Int32) (x2 : Int32) (x3 : Int32) (x4 : Int32) (x5 : Int32) (o : xH × Option Value) (r : ((Int32 × xS) ⊕ (xS × Unit))) : Prop := match r with
  | .inl q => Ev sc 4 206 [] 32 [some (.ref x0), some (.int x1), some (.int x2), some (.int x3), some (.int x4), some (.int x5), some (.int q.1), none] [] (hk_of q.2) o
  | .inr r => dn206 o r
noncomputable def f206_103 (x0 : Nat) (x1 : Int32) (x2 : Int32) (x3 : Int32) (x4 : Int32) (x5 : Int32) (x6 : Int32) (s : xS) : Option ((Int32 × xS) ⊕ (xS × Unit)) := some (Sum.inl ((x6 + (1 : Int32)), s))
set_option maxRecDepth 20000 in
theorem s206_103 {sc : Option (Nat × (Nat → Int32))} {x0 : Nat} {x1 : Int32} {x2 : Int32} {x3 : Int32} {x4 : Int32} {x5 : Int32} {x6 : Int32} {s : xS} {o : xH × Option Value} {r : ((Int32 × xS) ⊕ (xS × Unit))} (k0 : oK x0 12 = true) (h : f206_103 x0 x1 x2 x3 x4 x5 x6 s = some r) (hr : dn206_32 sc x0 x1 x2 x3 x4 x5 o r) : Ev sc 4 206 [] 103 [some (.ref x0), some (.int x1), some (.int x2), some (.int x3), some (.int x4), some (.int x5), some (.int x6), none] [] (hk_of s) o := by
  unfold f206_103 at h
  refine E_blk rfl ?_
  refine E_ps 1 (pc' := 106) (l' := [some (.ref x0), some (.int x1), some (.int x2), some (.int x3), some (.int x4), some (.int x5), some (.int (x6 + (1 : Int32))), none]) (st' := []) rfl ?_
  refine E_j rfl rfl ?_
  cases h
  exact E_wk (l' := [some (.ref x0), some (.int x1), some (.int x2), some (.int x3), some (.int x4), some (.int x5), some (.int (x6 + (1 : Int32))), none]) ⟨rfl, rfl, rfl, rfl, rfl, rfl, rfl, trivial⟩ hr
noncomputable def f206_32 (x0 : Nat) (x1 : Int32) (x2 : Int32) (x3 : Int32) (x4 : Int32) (x5 : Int32) (x6 : Int32) (s : xS) : Option ((Int32 × xS) ⊕ (xS × Unit)) := (f197 x0 s).bind fun z1 => if z1.2 ≤ x6 then (Option.map Sum.inr (some (z1.1, ()))) else ((f205 x0 x6 x3 x4 x5 z1.1).bind fun z4 => if 0 ≤ z4.2 then ((hk_R x0 39).bind fun a7 => (wI z4.1 a7 z4.2 x6).bind fun t9 => (hk_R x0 40).bind fun a11 => (f202 x0 x1 z4.2 t9).bind fun z13 => (f202 x0 x2 x6 z13.1).bind fun z15 => (wI z15.1 a11 z4.2 (z13.2 + z15.2)).bind fun t17 => (pI t17 x0 41 ((t17.1 x0 41) + (1 : Int32))).bind fun t19 => f206_103 x0 x1 x2 x3 x4 x5 x6 t19) else (f206_103 x0 x1 x2 x3 x4 x5 x6 z4.1))
set_option maxRecDepth 20000 in
theorem s206_32 {sc : Option (Nat × (Nat → Int32))} {x0 : Nat} {x1 : Int32} {x2 : Int32} {x3 : Int32} {x4 : Int32} {x5 : Int32} {x6 : Int32} {s : xS} {o : xH × Option Value} {r : ((Int32 × xS) ⊕ (xS × Unit))} (k0 : oK x0 12 = true) (h : f206_32 x0 x1 x2 x3 x4 x5 x6 s = some r) (hr : dn206_32 sc x0 x1 x2 x3 x4 x5 o r) : Ev sc 4 206 [] 32 [some (.ref x0), some (.int x1), some (.int x2), some (.int x3), some (.int x4), some (.int x5), some (.int x6), none] [] (hk_of s) o := by
  unfold f206_32 at h
  refine E_blk rfl ?_
  refine E_ps 2 (pc' := 35) (l' := [some (.ref x0), some (.int x1), some (.int x2), some (.int x3), some (.int x4), some (.int x5), some (.int x6), none]) (st' := [.ref x0, .int x6]) rfl ?_
  obtain ⟨z1, e2, h⟩ := Option.bind_eq_some_iff.mp h
  refine E_callI (vs := [.ref x0]) (rest := [.int x6]) rfl (by decide) rfl rfl (Nat.le_of_ble_eq_true rfl) (s197 e2) (by decide) ?_
  by_cases c3 : z1.2 ≤ x6
  · rw [if_pos c3] at h
    refine E_jt rfl rfl c3 ?_
    obtain ⟨r, h, hr⟩ := lf_some (Dn := dn206_32 sc x0 x1 x2 x3 x4 x5 o) h hr
    refine E_blk rfl ?_
    cases h
    exact E_ret rfl (pg_mt_md (by decide)) rfl hr
  · rw [if_neg c3] at h
    refine E_jf rfl rfl c3 ?_
    refine E_blk rfl ?_
    refine E_ps 5 (pc' := 49) (l' := [some (.ref x0), some (.int x1), some (.int x2), some (.int x3), some (.int x4), some (.int x5), some (.int x6), none]) (st' := [.int x5, .int x4, .int x3, .int x6, .ref x0]) rfl ?_
    obtain ⟨z4, e5, h⟩ := Option.bind_eq_some_iff.mp h
    refine E_callI (vs := [.ref x0, .int x6, .int x3, .int x4, .int x5]) (rest := []) rfl (by decide) rfl rfl (Nat.le_of_ble_eq_true rfl) (s205 e5) (by decide) ?_
    refine E_ps 2 (pc' := 56) (l' := [some (.ref x0), some (.int x1), some (.int x2), some (.int x3), some (.int x4), some (.int x5), some (.int x6), some (.int z4.2)]) (st' := [.int z4.2]) rfl ?_
    by_cases c6 : 0 ≤ z4.2
    · rw [if_pos c6] at h
      refine E_jt rfl rfl c6 ?_
      refine E_blk rfl ?_
      refine E_ps 1 (pc' := 63) (l' := [some (.ref x0), some (.int x1), some (.int x2), some (.int x3), some (.int x4), some (.int x5), some (.int x6), some (.int z4.2)]) (st' := [.ref x0]) rfl ?_
      obtain ⟨a7, e8, h⟩ := Option.bind_eq_some_iff.mp h
      refine E_gr k0 (by decide) rfl e8 ?_
      refine E_ps 2 (pc' := 70) (l' := [some (.ref x0), some (.int x1), some (.int x2), some (.int x3), some (.int x4), some (.int x5), some (.int x6), some (.int z4.2)]) (st' := [.int x6, .int z4.2, .ref a7]) rfl ?_
      obtain ⟨t9, e10, h⟩ := Option.bind_eq_some_iff.mp h
      refine E_wi e10 ?_
      refine E_ps 1 (pc' := 72) (l' := [some (.ref x0), some (.int x1), some (.int x2), some (.int x3), some (.int x4), some (.int x5), some (.int x6), some (.int z4.2)]) (st' := [.ref x0]) rfl ?_
      obtain ⟨a11, e12, h⟩ := Option.bind_eq_some_iff.mp h
      refine E_gr k0 (by decide) rfl e12 ?_
      refine E_ps 4 (pc' := 81) (l' := [some (.ref x0), some (.int x1), some (.int x2), some (.int x3), some (.int x4), some (.int x5), some (.int x6), some (.int z4.2)]) (st' := [.int z4.2, .int x1, .ref x0, .int z4.2, .ref a11]) rfl ?_
      obtain ⟨z13, e14, h⟩ := Option.bind_eq_some_iff.mp h
      refine E_callI (vs := [.ref x0, .int x1, .int z4.2]) (rest := [.int z4.2, .ref a11]) rfl (by decide) rfl rfl (Nat.le_of_ble_eq_true rfl) (s202 e14) (by decide) ?_
      refine E_ps 3 (pc' := 88) (l' := [some (.ref x0), some (.int x1), some (.int x2), some (.int x3), some (.int x4), some (.int x5), some (.int x6), some (.int z4.2)]) (st' := [.int x6, .int x2, .ref x0, .int z13.2, .int z4.2, .ref a11]) rfl ?_
      obtain ⟨z15, e16, h⟩ := Option.bind_eq_some_iff.mp h
      refine E_callI (vs := [.ref x0, .int x2, .int x6]) (rest := [.int z13.2, .int z4.2, .ref a11]) rfl (by decide) rfl rfl (Nat.le_of_ble_eq_true rfl) (s202 e16) (by decide) ?_
      refine E_ps 1 (pc' := 92) (l' := [some (.ref x0), some (.int x1), some (.int x2), some (.int x3), some (.int x4), some (.int x5), some (.int x6), some (.int z4.2)]) (st' := [.int (z13.2 + z15.2), .int z4.2, .ref a11]) rfl ?_
      obtain ⟨t17, e18, h⟩ := Option.bind_eq_some_iff.mp h
      refine E_wi e18 ?_
      refine E_ps 2 (pc' := 95) (l' := [some (.ref x0), some (.int x1), some (.int x2), some (.int x3), some (.int x4), some (.int x5), some (.int x6), some (.int z4.2)]) (st' := [.ref x0, .ref x0]) rfl ?_
      refine E_gi k0 (by decide) rfl ?_
      refine E_ps 2 (pc' := 100) (l' := [some (.ref x0), some (.int x1), some (.int x2), some (.int x3), some (.int x4), some (.int x5), some (.int x6), some (.int z4.2)]) (st' := [.int ((t17.1 x0 41) + (1 : Int32)), .ref x0]) rfl ?_
      obtain ⟨t19, e20, h⟩ := Option.bind_eq_some_iff.mp h
      refine E_pi k0 (by decide) rfl e20 ?_
      exact E_wk (l' := [some (.ref x0), some (.int x1), some (.int x2), some (.int x3), some (.int x4), some (.int x5), some (.int x6), none]) ⟨rfl, rfl, rfl, rfl, rfl, rfl, rfl, trivial⟩ (s206_103 k0 h hr)
    · rw [if_neg c6] at h
      refine E_jf rfl rfl c6 ?_
      refine E_blk rfl ?_
      refine E_j rfl rfl ?_
      exact E_wk (l' := [some (.ref x0), some (.int x1), some (.int x2), some (.int x3), some (.int x4), some (.int x5), some (.int x6), none]) ⟨rfl, rfl, rfl, rfl, rfl, rfl, rfl, trivial⟩ (s206_103 k0 h hr)
theorem s206_32_w {sc : Option (Nat × (Nat → Int32))} {x0 : Nat} {x1 : Int32} {x2 : Int32} {x3 : Int32} {x4 : Int32} {x5 : Int32} {x6 : Int32} {s : xS} {o : xH × Option Value} {r : (xS × Unit)} (k0 : oK x0 12 = true) (h : whl (fun q : (Int32 × xS) => f206_32 x0 x1 x2 x3 x4 x5 q.1 q.2) (x6, s) = some r) (hr : dn206 o r) : Ev sc 4 206 [] 32 [some (.ref x0), some (.int x1), some (.int x2), some (.int x3), some (.int x4), some (.int x5), some (.int x6), none] [] (hk_of s) o := by
  refine whl_snd (E := fun q : (Int32 × xS) => Ev sc 4 206 [] 32 [some (.ref x0), some (.int x1), some (.int x2), some (.int x3), some (.int x4), some (.int x5), some (.int q.1), none] [] (hk_of q.2) o) (P := fun r => dn206 o r) (fun q r h hr => ?_) h hr
  exact s206_32 k0 h (by cases r <;> exact hr)
noncomputable def f206_3 (x0 : Nat) (x1 : Int32) (x2 : Int32) (x3 : Int32) (x4 : Int32) (x5 : Int32) (x6 : Int32) (s : xS) : Option ((Int32 × xS) ⊕ (xS × Unit)) := if (25 : Int32) ≤ x6 then (Option.map Sum.inr ((pI s x0 41 (0 : Int32)).bind fun t2 => whl (fun q : (Int32 × xS) => f206_32 x0 x1 x2 x3 x4 x5 q.1 q.2) ((0 : Int32), t2))) else ((hk_R x0 39).bind fun a4 => (wI s a4 x6 (-1 : Int32)).bind fun t6 => some (Sum.inl ((x6 + (1 : Int32)), t6)))
set_option maxRecDepth 20000 in
theorem s206_3 {sc : Option (Nat × (Nat → Int32))} {x0 : Nat} {x1 : Int32} {x2 : Int32} {x3 : Int32} {x4 : Int32} {x5 : Int32} {x6 : Int32} {s : xS} {o : xH × Option Value} {r : ((Int32 × xS) ⊕ (xS × Unit))} (k0 : oK x0 12 = true) (h : f206_3 x0 x1 x2 x3 x4 x5 x6 s = some r) (hr : dn206_3 sc x0 x1 x2 x3 x4 x5 o r) : Ev sc 4 206 [] 3 [some (.ref x0), some (.int x1), some (.int x2), some (.int x3), some (.int x4), some (.int x5), some (.int x6), none] [] (hk_of s) o := by
  unfold f206_3 at h
  refine E_blk rfl ?_
  refine E_ps 2 (pc' := 7) (l' := [some (.ref x0), some (.int x1), some (.int x2), some (.int x3), some (.int x4), some (.int x5), some (.int x6), none]) (st' := [.int (25 : Int32), .int x6]) rfl ?_
  by_cases c1 : (25 : Int32) ≤ x6
  · rw [if_pos c1] at h
    refine E_jt rfl rfl c1 ?_
    obtain ⟨r, h, hr⟩ := lf_some (Dn := dn206_3 sc x0 x1 x2 x3 x4 x5 o) h hr
    refine E_blk rfl ?_
    refine E_ps 2 (pc' := 26) (l' := [some (.ref x0), some (.int x1), some (.int x2), some (.int x3), some (.int x4), some (.int x5), some (.int x6), none]) (st' := [.int (0 : Int32), .ref x0]) rfl ?_
    obtain ⟨t2, e3, h⟩ := Option.bind_eq_some_iff.mp h
    refine E_pi k0 (by decide) rfl e3 ?_
    refine E_ps 2 (pc' := 32) (l' := [some (.ref x0), some (.int x1), some (.int x2), some (.int x3), some (.int x4), some (.int x5), some (.int (0 : Int32)), none]) (st' := []) rfl ?_
    exact E_wk (l' := [some (.ref x0), some (.int x1), some (.int x2), some (.int x3), some (.int x4), some (.int x5), some (.int (0 : Int32)), none]) ⟨rfl, rfl, rfl, rfl, rfl, rfl, rfl, trivial⟩ (s206_32_w k0 h hr)
  · rw [if_neg c1] at h
    refine E_jf rfl rfl c1 ?_
    refine E_blk rfl ?_
    refine E_ps 1 (pc' := 11) (l' := [some (.ref x0), some (.int x1), some (.int x2), some (.int x3), some (.int x4), some (.int x5), some (.int x6), none]) (st' := [.ref x0]) rfl ?_
    obtain ⟨a4, e5, h⟩ := Option.bind_eq_some_iff.mp h
    refine E_gr k0 (by decide) rfl e5 ?_
    refine E_ps 2 (pc' := 17) (l' := [some (.ref x0), some (.int x1), some (.int x2), some (.int x3), some (.int x4), some (.int x5), some (.int x6), none]) (st' := [.int (-1 : Int32), .int x6, .ref a4]) rfl ?_
    obtain ⟨t6, e7, h⟩ := Option.bind_eq_some_iff.mp h
    refine E_wi e7 ?_
    refine E_ps 1 (pc' := 21) (l' := [some (.ref x0), some (.int x1), some (.int x2), some (.int x3), some (.int x4), some (.int x5), some (.int (x6 + (1 : Int32))), none]) (st' := []) rfl ?_
    refine E_j rfl rfl ?_
    cases h
    exact E_wk (l' := [some (.ref x0), some (.int x1), some (.int x2), some (.int x3), some (.int x4), some (.int x5), some (.int (x6 + (1 : Int32))), none]) ⟨rfl, rfl, rfl, rfl, rfl, rfl, rfl, trivial⟩ hr
theorem s206_3_w {sc : Option (Nat × (Nat → Int32))} {x0 : Nat} {x1 : Int32} {x2 : Int32} {x3 : Int32} {x4 : Int32} {x5 : Int32} {x6 : Int32} {s : xS} {o : xH × Option Value} {r : (xS × Unit)} (k0 : oK x0 12 = true) (h : whl (fun q : (Int32 × xS) => f206_3 x0 x1 x2 x3 x4 x5 q.1 q.2) (x6, s) = some r) (hr : dn206 o r) : Ev sc 4 206 [] 3 [some (.ref x0), some (.int x1), some (.int x2), some (.int x3), some (.int x4), some (.int x5), some (.int x6), none] [] (hk_of s) o := by
  refine whl_snd (E := fun q : (Int32 × xS) => Ev sc 4 206 [] 3 [some (.ref x0), some (.int x1), some (.int x2), some (.int x3), some (.int x4), some (.int x5), some (.int q.1), none] [] (hk_of q.2) o) (P := fun r => dn206 o r) (fun q r h hr => ?_) h hr
  exact s206_3 k0 h (by cases r <;> exact hr)
noncomputable def f206 (x0 : Nat) (x1 : Int32) (x2 : Int32) (x3 : Int32) (x4 : Int32) (x5 : Int32) (s : xS) : Option (xS × Unit) := ifg (oK x0 12 = true) <| whl (fun q : (Int32 × xS) => f206_3 x0 x1 x2 x3 x4 x5 q.1 q.2) ((0 : Int32), s)
set_option maxRecDepth 20000 in
theorem s206 {sc : Option (Nat × (Nat → Int32))} {x0 : Nat} {x1 : Int32} {x2 : Int32} {x3 : Int32} {x4 : Int32} {x5 : Int32} {s : xS} {r : xS × Unit} (h : f206 x0 x1 x2 x3 x4 x5 s = some r) : Cl sc 4 206 [.ref x0, .int x1, .int x2, .int x3, .int x4, .int x5] (hk_of s) (hk_of r.1, none) := by
  unfold f206 at h
  obtain ⟨k0, h⟩ := ifg_some h
  refine ⟨pg_md 206, [some (.ref x0), some (.int x1), some (.int x2), some (.int x3), some (.int x4), some (.int x5), none, none], pg_mt_md (by decide), (hk_rcv k0), rfl, ?_⟩
  generalize ho : ((hk_of r.1, none) : xH × Option Value) = o
  have hr : dn206 o r := ho.symm
  refine E_blk rfl ?_
  refine E_ps 2 (pc' := 3) (l' := [some (.ref x0), some (.int x1), some (.int x2), some (.int x3), some (.int x4), some (.int x5), some (.int (0 : Int32)), none]) (st' := []) rfl ?_
  exact E_wk (l' := [some (.ref x0), some (.int x1), some (.int x2), some (.int x3), some (.int x4), some (.int x5), some (.int (0 : Int32)), none]) ⟨rfl, rfl, rfl, rfl, rfl, rfl, rfl, trivial⟩ (s206_3_w k0 h hr)

-- 207: ThreePlatesModel.layAlone(II)V
def dn207 (o : xH × Option Value) (r : xS × Unit) : Prop := o = (hk_of r.1, none)
def dn207_10 (sc : Option (Nat × (Nat → Int32))) (x0 : Nat) (x1 : Int32) (x2 : Int32) (o : xH × Option Value) (r : ((Int32 × xS) ⊕ (xS × Unit))) : Prop := match r with
  | .inl q => Ev sc 3 207 [] 10 [some (.ref x0), some (.int x1), some (.int x2), some (.int q.1)] [] (hk_of q.2) o
  | .inr r => dn207 o r
def dn207_43 (sc : Option (Nat × (Nat → Int32))) (x0 : Nat) (x1 : Int32) (x2 : Int32) (o : xH × Option Value) (r : ((Int32 × xS) ⊕ (xS × Unit))) : Prop := match r with
  | .inl q => Ev sc 3 207 [] 43 [some (.ref x0), some (.int x1), some (.int x2), some (.int q.1)] [] (hk_of q.2) o
  | .inr r => dn207 o r
noncomputable def f207_34 (x0 : Nat) (x1 : Int32) (x2 : Int32) (x3 : Int32) (y0 : Int32) (y1 : Int32) (y2 : Nat) (s : xS) : Option ((Int32 × xS) ⊕ (xS × Unit)) := (wI s y2 y1 y0).bind fun t1 => some (Sum.inl ((x3 + (1 : Int32)), t1))
set_option maxRecDepth 20000 in
theorem s207_34 {sc : Option (Nat × (Nat → Int32))} {x0 : Nat} {x1 : Int32} {x2 : Int32} {x3 : Int32} {y0 : Int32} {y1 : Int32} {y2 : Nat} {s : xS} {o : xH × Option Value} {r : ((Int32 × xS) ⊕ (xS × Unit))} (k0 : oK x0 12 = true) (h : f207_34 x0 x1 x2 x3 y0 y1 y2 s = some r) (hr : dn207_10 sc x0 x1 x2 o r) : Ev sc 3 207 [] 34 [some (.ref x0), some (.int x1), some (.int x2), some (.int x3)] [.int y0, .int y1, .ref y2] (hk_of s) o := by
  unfold f207_34 at h
  refine E_blk rfl ?_
  obtain ⟨t1, e2, h⟩ := Option.bind_eq_some_iff.mp h
  refine E_wi e2 ?_
  refine E_ps 1 (pc' := 38) (l' := [some (.ref x0), some (.int x1), some (.int x2), some (.int (x3 + (1 : Int32)))]) (st' := []) rfl ?_
  refine E_j rfl rfl ?_
  cases h
  exact E_wk (l' := [some (.ref x0), some (.int x1), some (.int x2), some (.int (x3 + (1 : Int32)))]) ⟨rfl, rfl, rfl, rfl, trivial⟩ hr
noncomputable def f207_43 (x0 : Nat) (x1 : Int32) (x2 : Int32) (x3 : Int32) (s : xS) : Option ((Int32 × xS) ⊕ (xS × Unit)) := if (s.1 x0 41) ≤ x3 then (Option.map Sum.inr (some (s, ()))) else ((hk_R x0 40).bind fun a2 => (hk_R x0 20).bind fun a4 => (aI s a4 (((25 : Int32) * x1) + x3)).bind fun v6 => (wI s a2 x3 (x2 * v6)).bind fun t8 => some (Sum.inl ((x3 + (1 : Int32)), t8)))
set_option maxRecDepth 20000 in
theorem s207_43 {sc : Option (Nat × (Nat → Int32))} {x0 : Nat} {x1 : Int32} {x2 : Int32} {x3 : Int32} {s : xS} {o : xH × Option Value} {r : ((Int32 × xS) ⊕ (xS × Unit))} (k0 : oK x0 12 = true) (h : f207_43 x0 x1 x2 x3 s = some r) (hr : dn207_43 sc x0 x1 x2 o r) : Ev sc 3 207 [] 43 [some (.ref x0), some (.int x1), some (.int x2), some (.int x3)] [] (hk_of s) o := by
  unfold f207_43 at h
  refine E_blk rfl ?_
  refine E_ps 2 (pc' := 45) (l' := [some (.ref x0), some (.int x1), some (.int x2), some (.int x3)]) (st' := [.ref x0, .int x3]) rfl ?_
  refine E_gi k0 (by decide) rfl ?_
  by_cases c1 : (s.1 x0 41) ≤ x3
  · rw [if_pos c1] at h
    refine E_jt rfl rfl c1 ?_
    obtain ⟨r, h, hr⟩ := lf_some (Dn := dn207_43 sc x0 x1 x2 o) h hr
    refine E_blk rfl ?_
    cases h
    exact E_ret rfl (pg_mt_md (by decide)) rfl hr
  · rw [if_neg c1] at h
    refine E_jf rfl rfl c1 ?_
    refine E_blk rfl ?_
    refine E_ps 1 (pc' := 52) (l' := [some (.ref x0), some (.int x1), some (.int x2), some (.int x3)]) (st' := [.ref x0]) rfl ?_
    obtain ⟨a2, e3, h⟩ := Option.bind_eq_some_iff.mp h
    refine E_gr k0 (by decide) rfl e3 ?_
    refine E_ps 3 (pc' := 58) (l' := [some (.ref x0), some (.int x1), some (.int x2), some (.int x3)]) (st' := [.ref x0, .int x2, .int x3, .ref a2]) rfl ?_
    obtain ⟨a4, e5, h⟩ := Option.bind_eq_some_iff.mp h
    refine E_gr k0 (by decide) rfl e5 ?_
    refine E_ps 5 (pc' := 67) (l' := [some (.ref x0), some (.int x1), some (.int x2), some (.int x3)]) (st' := [.int (((25 : Int32) * x1) + x3), .ref a4, .int x2, .int x3, .ref a2]) rfl ?_
    obtain ⟨v6, e7, h⟩ := Option.bind_eq_some_iff.mp h
    refine E_ai e7 ?_
    refine E_ps 1 (pc' := 69) (l' := [some (.ref x0), some (.int x1), some (.int x2), some (.int x3)]) (st' := [.int (x2 * v6), .int x3, .ref a2]) rfl ?_
    obtain ⟨t8, e9, h⟩ := Option.bind_eq_some_iff.mp h
    refine E_wi e9 ?_
    refine E_ps 1 (pc' := 73) (l' := [some (.ref x0), some (.int x1), some (.int x2), some (.int (x3 + (1 : Int32)))]) (st' := []) rfl ?_
    refine E_j rfl rfl ?_
    cases h
    exact E_wk (l' := [some (.ref x0), some (.int x1), some (.int x2), some (.int (x3 + (1 : Int32)))]) ⟨rfl, rfl, rfl, rfl, trivial⟩ hr
theorem s207_43_w {sc : Option (Nat × (Nat → Int32))} {x0 : Nat} {x1 : Int32} {x2 : Int32} {x3 : Int32} {s : xS} {o : xH × Option Value} {r : (xS × Unit)} (k0 : oK x0 12 = true) (h : whl (fun q : (Int32 × xS) => f207_43 x0 x1 x2 q.1 q.2) (x3, s) = some r) (hr : dn207 o r) : Ev sc 3 207 [] 43 [some (.ref x0), some (.int x1), some (.int x2), some (.int x3)] [] (hk_of s) o := by
  refine whl_snd (E := fun q : (Int32 × xS) => Ev sc 3 207 [] 43 [some (.ref x0), some (.int x1), some (.int x2), some (.int q.1)] [] (hk_of q.2) o) (P := fun r => dn207 o r) (fun q r h hr => ?_) h hr
  exact s207_43 k0 h (by cases r <;> exact hr)
noncomputable def f207_10 (x0 : Nat) (x1 : Int32) (x2 : Int32) (x3 : Int32) (s : xS) : Option ((Int32 × xS) ⊕ (xS × Unit)) := if (25 : Int32) ≤ x3 then (Option.map Sum.inr (whl (fun q : (Int32 × xS) => f207_43 x0 x1 x2 q.1 q.2) ((0 : Int32), s))) else ((hk_R x0 39).bind fun a2 => if (s.1 x0 41) ≤ x3 then (f207_34 x0 x1 x2 x3 (-1 : Int32) x3 a2 s) else (f207_34 x0 x1 x2 x3 x3 x3 a2 s))
set_option maxRecDepth 20000 in
theorem s207_10 {sc : Option (Nat × (Nat → Int32))} {x0 : Nat} {x1 : Int32} {x2 : Int32} {x3 : Int32} {s : xS} {o : xH × Option Value} {r : ((Int32 × xS) ⊕ (xS × Unit))} (k0 : oK x0 12 = true) (h : f207_10 x0 x1 x2 x3 s = some r) (hr : dn207_10 sc x0 x1 x2 o r) : Ev sc 3 207 [] 10 [some (.ref x0), some (.int x1), some (.int x2), some (.int x3)] [] (hk_of s) o := by
  unfold f207_10 at h
  refine E_blk rfl ?_
  refine E_ps 2 (pc' := 13) (l' := [some (.ref x0), some (.int x1), some (.int x2), some (.int x3)]) (st' := [.int (25 : Int32), .int x3]) rfl ?_
  by_cases c1 : (25 : Int32) ≤ x3
  · rw [if_pos c1] at h
    refine E_jt rfl rfl c1 ?_
    obtain ⟨r, h, hr⟩ := lf_some (Dn := dn207_10 sc x0 x1 x2 o) h hr
    refine E_blk rfl ?_
    refine E_ps 2 (pc' := 43) (l' := [some (.ref x0), some (.int x1), some (.int x2), some (.int (0 : Int32))]) (st' := []) rfl ?_
    exact E_wk (l' := [some (.ref x0), some (.int x1), some (.int x2), some (.int (0 : Int32))]) ⟨rfl, rfl, rfl, rfl, trivial⟩ (s207_43_w k0 h hr)
  · rw [if_neg c1] at h
    refine E_jf rfl rfl c1 ?_
    refine E_blk rfl ?_
    refine E_ps 1 (pc' := 17) (l' := [some (.ref x0), some (.int x1), some (.int x2), some (.int x3)]) (st' := [.ref x0]) rfl ?_
    obtain ⟨a2, e3, h⟩ := Option.bind_eq_some_iff.mp h
    refine E_gr k0 (by decide) rfl e3 ?_
    refine E_ps 3 (pc' := 23) (l' := [some (.ref x0), some (.int x1), some (.int x2), some (.int x3)]) (st' := [.ref x0, .int x3, .int x3, .ref a2]) rfl ?_
    refine E_gi k0 (by decide) rfl ?_
    by_cases c4 : (s.1 x0 41) ≤ x3
    · rw [if_pos c4] at h
      refine E_jt rfl rfl c4 ?_
      refine E_blk rfl ?_
      refine E_ps 1 (pc' := 34) (l' := [some (.ref x0), some (.int x1), some (.int x2), some (.int x3)]) (st' := [.int (-1 : Int32), .int x3, .ref a2]) rfl ?_
      exact E_wk (l' := [some (.ref x0), some (.int x1), some (.int x2), some (.int x3)]) ⟨rfl, rfl, rfl, rfl, trivial⟩ (s207_34 k0 h hr)
    · rw [if_neg c4] at h
      refine E_jf rfl rfl c4 ?_
      refine E_blk rfl ?_
      refine E_ps 1 (pc' := 30) (l' := [some (.ref x0), some (.int x1), some (.int x2), some (.int x3)]) (st' := [.int x3, .int x3, .ref a2]) rfl ?_
      refine E_j rfl rfl ?_
      exact E_wk (l' := [some (.ref x0), some (.int x1), some (.int x2), some (.int x3)]) ⟨rfl, rfl, rfl, rfl, trivial⟩ (s207_34 k0 h hr)
theorem s207_10_w {sc : Option (Nat × (Nat → Int32))} {x0 : Nat} {x1 : Int32} {x2 : Int32} {x3 : Int32} {s : xS} {o : xH × Option Value} {r : (xS × Unit)} (k0 : oK x0 12 = true) (h : whl (fun q : (Int32 × xS) => f207_10 x0 x1 x2 q.1 q.2) (x3, s) = some r) (hr : dn207 o r) : Ev sc 3 207 [] 10 [some (.ref x0), some (.int x1), some (.int x2), some (.int x3)] [] (hk_of s) o := by
  refine whl_snd (E := fun q : (Int32 × xS) => Ev sc 3 207 [] 10 [some (.ref x0), some (.int x1), some (.int x2), some (.int q.1)] [] (hk_of q.2) o) (P := fun r => dn207 o r) (fun q r h hr => ?_) h hr
  exact s207_10 k0 h (by cases r <;> exact hr)
noncomputable def f207 (x0 : Nat) (x1 : Int32) (x2 : Int32) (s : xS) : Option (xS × Unit) := ifg (oK x0 12 = true) <| (f197 x0 s).bind fun z1 => (pI z1.1 x0 41 z1.2).bind fun t3 => whl (fun q : (Int32 × xS) => f207_10 x0 x1 x2 q.1 q.2) ((0 : Int32), t3)
set_option maxRecDepth 20000 in
theorem s207 {sc : Option (Nat × (Nat → Int32))} {x0 : Nat} {x1 : Int32} {x2 : Int32} {s : xS} {r : xS × Unit} (h : f207 x0 x1 x2 s = some r) : Cl sc 3 207 [.ref x0, .int x1, .int x2] (hk_of s) (hk_of r.1, none) := by
  unfold f207 at h
  obtain ⟨k0, h⟩ := ifg_some h
  refine ⟨pg_md 207, [some (.ref x0), some (.int x1), some (.int x2), none], pg_mt_md (by decide), (hk_rcv k0), rfl, ?_⟩
  generalize ho : ((hk_of r.1, none) : xH × Option Value) = o
  have hr : dn207 o r := ho.symm
  refine E_blk rfl ?_
  refine E_ps 2 (pc' := 2) (l' := [some (.ref x0), some (.int x1), some (.int x2), none]) (st' := [.ref x0, .ref x0]) rfl ?_
  obtain ⟨z1, e2, h⟩ := Option.bind_eq_some_iff.mp h
  refine E_callI (vs := [.ref x0]) (rest := [.ref x0]) rfl (by decide) rfl rfl (Nat.le_of_ble_eq_true rfl) (s197 e2) (by decide) ?_
  obtain ⟨t3, e4, h⟩ := Option.bind_eq_some_iff.mp h
  refine E_pi k0 (by decide) rfl e4 ?_
  refine E_ps 2 (pc' := 10) (l' := [some (.ref x0), some (.int x1), some (.int x2), some (.int (0 : Int32))]) (st' := []) rfl ?_
  exact E_wk (l' := [some (.ref x0), some (.int x1), some (.int x2), some (.int (0 : Int32))]) ⟨rfl, rfl, rfl, rfl, trivial⟩ (s207_10_w k0 h hr)

-- 208: ThreePlatesModel.through(III)Z
def dn208 (o : xH × Option Value) (r : xS × Int32) : Prop := o = (hk_of r.1, some (.int r.2))
noncomputable def f208_132 (x0 : Nat) (x4 : Int64) (x6 : Int64) (x8 : Int64) (x10 : Int64) (x12 : Int64) (x14 : Int64) (x16 : Int64) (y0 : Int64) (s : xS) : Option (xS × Int32) := (pL s x0 46 (y0 * ((x14 * x10) - (x16 * x6)))).bind fun t1 => (pL t1 x0 47 (y0 * ((x4 * x16) - (x8 * x14)))).bind fun t3 => (pL t3 x0 48 (y0 * x12)).bind fun t5 => some (t5, (1 : Int32))
set_option maxRecDepth 20000 in
theorem s208_132 {sc : Option (Nat × (Nat → Int32))} {x0 : Nat} {x4 : Int64} {x6 : Int64} {x8 : Int64} {x10 : Int64} {x12 : Int64} {x14 : Int64} {x16 : Int64} {y0 : Int64} {s : xS} {o : xH × Option Value} {r : (xS × Int32)} (k0 : oK x0 12 = true) (h : f208_132 x0 x4 x6 x8 x10 x12 x14 x16 y0 s = some r) (hr : dn208 o r) : Ev sc 2 208 [] 132 [some (.ref x0), none, none, none, some (.long x4), none, some (.long x6), none, some (.long x8), none, some (.long x10), none, some (.long x12), none, some (.long x14), none, some (.long x16), none, none, none] [.long y0] (hk_of s) o := by
  unfold f208_132 at h
  refine E_blk rfl ?_
  refine E_ps 11 (pc' := 149) (l' := [some (.ref x0), none, none, none, some (.long x4), none, some (.long x6), none, some (.long x8), none, some (.long x10), none, some (.long x12), none, some (.long x14), none, some (.long x16), none, some (.long y0), none]) (st' := [.long (y0 * ((x14 * x10) - (x16 * x6))), .ref x0]) rfl ?_
  obtain ⟨t1, e2, h⟩ := Option.bind_eq_some_iff.mp h
  refine E_pl k0 (by decide) rfl e2 ?_
  refine E_ps 10 (pc' := 167) (l' := [some (.ref x0), none, none, none, some (.long x4), none, some (.long x6), none, some (.long x8), none, some (.long x10), none, some (.long x12), none, some (.long x14), none, some (.long x16), none, some (.long y0), none]) (st' := [.long (y0 * ((x4 * x16) - (x8 * x14))), .ref x0]) rfl ?_
  obtain ⟨t3, e4, h⟩ := Option.bind_eq_some_iff.mp h
  refine E_pl k0 (by decide) rfl e4 ?_
  refine E_ps 4 (pc' := 176) (l' := [some (.ref x0), none, none, none, some (.long x4), none, some (.long x6), none, some (.long x8), none, some (.long x10), none, some (.long x12), none, some (.long x14), none, some (.long x16), none, some (.long y0), none]) (st' := [.long (y0 * x12), .ref x0]) rfl ?_
  obtain ⟨t5, e6, h⟩ := Option.bind_eq_some_iff.mp h
  refine E_pl k0 (by decide) rfl e6 ?_
  refine E_ps 1 (pc' := 180) (l' := [some (.ref x0), none, none, none, some (.long x4), none, some (.long x6), none, some (.long x8), none, some (.long x10), none, some (.long x12), none, some (.long x14), none, some (.long x16), none, some (.long y0), none]) (st' := [.int (1 : Int32)]) rfl ?_
  cases h
  exact E_ret rfl (pg_mt_md (by decide)) rfl hr
noncomputable def f208 (x0 : Nat) (x1 : Int32) (x2 : Int32) (x3 : Int32) (s : xS) : Option (xS × Int32) := ifg (oK x0 12 = true) <| (f196 x0 s).bind fun z1 => ifg (¬ z1.2 = 0) <| (f196 x0 z1.1).bind fun z4 => ifg (¬ z4.2 = 0) <| (f196 x0 z4.1).bind fun z7 => ifg (¬ z7.2 = 0) <| (f196 x0 z7.1).bind fun z10 => ifg (¬ z10.2 = 0) <| (f196 x0 z10.1).bind fun z13 => ifg (¬ z13.2 = 0) <| (f196 x0 z13.1).bind fun z16 => ifg (¬ z16.2 = 0) <| (f196 x0 z16.1).bind fun z19 => ifg (¬ z19.2 = 0) <| (f196 x0 z19.1).bind fun z22 => ifg (¬ z22.2 = 0) <| if (lg_cmp ((((irm x2 z1.2) - (irm x1 z4.2)).toInt64 * ((x3 / z19.2) - (x1 / z22.2)).toInt64) - (((irm x3 z13.2) - (irm x1 z16.2)).toInt64 * ((x2 / z7.2) - (x1 / z10.2)).toInt64)) (0 : Int64)) = 0 then (some (z22.1, (0 : Int32))) else ((hk_R x0 40).bind fun a26 => (aI z22.1 a26 x2).bind fun v28 => (hk_R x0 40).bind fun a30 => (aI z22.1 a30 x1).bind fun v32 => (hk_R x0 40).bind fun a34 => (aI z22.1 a34 x3).bind fun v36 => (hk_R x0 40).bind fun a38 => (aI z22.1 a38 x1).bind fun v40 => if 0 ≤ (lg_cmp ((((irm x2 z1.2) - (irm x1 z4.2)).toInt64 * ((x3 / z19.2) - (x1 / z22.2)).toInt64) - (((irm x3 z13.2) - (irm x1 z16.2)).toInt64 * ((x2 / z7.2) - (x1 / z10.2)).toInt64)) (0 : Int64)) then (f208_132 x0 ((irm x2 z1.2) - (irm x1 z4.2)).toInt64 ((x2 / z7.2) - (x1 / z10.2)).toInt64 ((irm x3 z13.2) - (irm x1 z16.2)).toInt64 ((x3 / z19.2) - (x1 / z22.2)).toInt64 ((((irm x2 z1.2) - (irm x1 z4.2)).toInt64 * ((x3 / z19.2) - (x1 / z22.2)).toInt64) - (((irm x3 z13.2) - (irm x1 z16.2)).toInt64 * ((x2 / z7.2) - (x1 / z10.2)).toInt64)) (v28 - v32).toInt64 (v36 - v40).toInt64 (1 : Int64) z22.1) else (f208_132 x0 ((irm x2 z1.2) - (irm x1 z4.2)).toInt64 ((x2 / z7.2) - (x1 / z10.2)).toInt64 ((irm x3 z13.2) - (irm x1 z16.2)).toInt64 ((x3 / z19.2) - (x1 / z22.2)).toInt64 ((((irm x2 z1.2) - (irm x1 z4.2)).toInt64 * ((x3 / z19.2) - (x1 / z22.2)).toInt64) - (((irm x3 z13.2) - (irm x1 z16.2)).toInt64 * ((x2 / z7.2) - (x1 / z10.2)).toInt64)) (v28 - v32).toInt64 (v36 - v40).toInt64 (-1 : Int64) z22.1))
set_option maxRecDepth 20000 in
theorem s208 {sc : Option (Nat × (Nat → Int32))} {x0 : Nat} {x1 : Int32} {x2 : Int32} {x3 : Int32} {s : xS} {r : xS × Int32} (h : f208 x0 x1 x2 x3 s = some r) : Cl sc 2 208 [.ref x0, .int x1, .int x2, .int x3] (hk_of s) (hk_of r.1, some (.int r.2)) := by
  unfold f208 at h
  obtain ⟨k0, h⟩ := ifg_some h
  refine ⟨pg_md 208, [some (.ref x0), some (.int x1), some (.int x2), some (.int x3), none, none, none, none, none, none, none, none, none, none, none, none, none, none, none, none], pg_mt_md (by decide), (hk_rcv k0), rfl, ?_⟩
  generalize ho : ((hk_of r.1, some (Value.int r.2)) : xH × Option Value) = o
  have hr : dn208 o r := ho.symm
  refine E_blk rfl ?_
  refine E_ps 2 (pc' := 2) (l' := [some (.ref x0), some (.int x1), some (.int x2), some (.int x3), none, none, none, none, none, none, none, none, none, none, none, none, none, none, none, none]) (st' := [.ref x0, .int x2]) rfl ?_
  obtain ⟨z1, e2, h⟩ := Option.bind_eq_some_iff.mp h
  refine E_callI (vs := [.ref x0]) (rest := [.int x2]) rfl (by decide) rfl rfl (Nat.le_of_ble_eq_true rfl) (s196 e2) (by decide) ?_
  obtain ⟨g3, h⟩ := ifg_some h
  refine E_irem g3 ?_
  refine E_ps 2 (pc' := 8) (l' := [some (.ref x0), some (.int x1), some (.int x2), some (.int x3), none, none, none, none, none, none, none, none, none, none, none, none, none, none, none, none]) (st' := [.ref x0, .int x1, .int (irm x2 z1.2)]) rfl ?_
  obtain ⟨z4, e5, h⟩ := Option.bind_eq_some_iff.mp h
  refine E_callI (vs := [.ref x0]) (rest := [.int x1, .int (irm x2 z1.2)]) rfl (by decide) rfl rfl (Nat.le_of_ble_eq_true rfl) (s196 e5) (by decide) ?_
  obtain ⟨g6, h⟩ := ifg_some h
  refine E_irem g6 ?_
  refine E_ps 5 (pc' := 18) (l' := [some (.ref x0), some (.int x1), some (.int x2), some (.int x3), some (.long ((irm x2 z1.2) - (irm x1 z4.2)).toInt64), none, none, none, none, none, none, none, none, none, none, none, none, none, none, none]) (st' := [.ref x0, .int x2]) rfl ?_
  obtain ⟨z7, e8, h⟩ := Option.bind_eq_some_iff.mp h
  refine E_callI (vs := [.ref x0]) (rest := [.int x2]) rfl (by decide) rfl rfl (Nat.le_of_ble_eq_true rfl) (s196 e8) (by decide) ?_
  obtain ⟨g9, h⟩ := ifg_some h
  refine E_idiv g9 ?_
  refine E_ps 2 (pc' := 24) (l' := [some (.ref x0), some (.int x1), some (.int x2), some (.int x3), some (.long ((irm x2 z1.2) - (irm x1 z4.2)).toInt64), none, none, none, none, none, none, none, none, none, none, none, none, none, none, none]) (st' := [.ref x0, .int x1, .int (x2 / z7.2)]) rfl ?_
  obtain ⟨z10, e11, h⟩ := Option.bind_eq_some_iff.mp h
  refine E_callI (vs := [.ref x0]) (rest := [.int x1, .int (x2 / z7.2)]) rfl (by decide) rfl rfl (Nat.le_of_ble_eq_true rfl) (s196 e11) (by decide) ?_
  obtain ⟨g12, h⟩ := ifg_some h
  refine E_idiv g12 ?_
  refine E_ps 5 (pc' := 34) (l' := [some (.ref x0), some (.int x1), some (.int x2), some (.int x3), some (.long ((irm x2 z1.2) - (irm x1 z4.2)).toInt64), none, some (.long ((x2 / z7.2) - (x1 / z10.2)).toInt64), none, none, none, none, none, none, none, none, none, none, none, none, none]) (st' := [.ref x0, .int x3]) rfl ?_
  obtain ⟨z13, e14, h⟩ := Option.bind_eq_some_iff.mp h
  refine E_callI (vs := [.ref x0]) (rest := [.int x3]) rfl (by decide) rfl rfl (Nat.le_of_ble_eq_true rfl) (s196 e14) (by decide) ?_
  obtain ⟨g15, h⟩ := ifg_some h
  refine E_irem g15 ?_
  refine E_ps 2 (pc' := 40) (l' := [some (.ref x0), some (.int x1), some (.int x2), some (.int x3), some (.long ((irm x2 z1.2) - (irm x1 z4.2)).toInt64), none, some (.long ((x2 / z7.2) - (x1 / z10.2)).toInt64), none, none, none, none, none, none, none, none, none, none, none, none, none]) (st' := [.ref x0, .int x1, .int (irm x3 z13.2)]) rfl ?_
  obtain ⟨z16, e17, h⟩ := Option.bind_eq_some_iff.mp h
  refine E_callI (vs := [.ref x0]) (rest := [.int x1, .int (irm x3 z13.2)]) rfl (by decide) rfl rfl (Nat.le_of_ble_eq_true rfl) (s196 e17) (by decide) ?_
  obtain ⟨g18, h⟩ := ifg_some h
  refine E_irem g18 ?_
  refine E_ps 5 (pc' := 50) (l' := [some (.ref x0), some (.int x1), some (.int x2), some (.int x3), some (.long ((irm x2 z1.2) - (irm x1 z4.2)).toInt64), none, some (.long ((x2 / z7.2) - (x1 / z10.2)).toInt64), none, some (.long ((irm x3 z13.2) - (irm x1 z16.2)).toInt64), none, none, none, none, none, none, none, none, none, none, none]) (st' := [.ref x0, .int x3]) rfl ?_
  obtain ⟨z19, e20, h⟩ := Option.bind_eq_some_iff.mp h
  refine E_callI (vs := [.ref x0]) (rest := [.int x3]) rfl (by decide) rfl rfl (Nat.le_of_ble_eq_true rfl) (s196 e20) (by decide) ?_
  obtain ⟨g21, h⟩ := ifg_some h
  refine E_idiv g21 ?_
  refine E_ps 2 (pc' := 56) (l' := [some (.ref x0), some (.int x1), some (.int x2), some (.int x3), some (.long ((irm x2 z1.2) - (irm x1 z4.2)).toInt64), none, some (.long ((x2 / z7.2) - (x1 / z10.2)).toInt64), none, some (.long ((irm x3 z13.2) - (irm x1 z16.2)).toInt64), none, none, none, none, none, none, none, none, none, none, none]) (st' := [.ref x0, .int x1, .int (x3 / z19.2)]) rfl ?_
  obtain ⟨z22, e23, h⟩ := Option.bind_eq_some_iff.mp h
  refine E_callI (vs := [.ref x0]) (rest := [.int x1, .int (x3 / z19.2)]) rfl (by decide) rfl rfl (Nat.le_of_ble_eq_true rfl) (s196 e23) (by decide) ?_
  obtain ⟨g24, h⟩ := ifg_some h
  refine E_idiv g24 ?_
  refine E_ps 14 (pc' := 81) (l' := [some (.ref x0), some (.int x1), some (.int x2), some (.int x3), some (.long ((irm x2 z1.2) - (irm x1 z4.2)).toInt64), none, some (.long ((x2 / z7.2) - (x1 / z10.2)).toInt64), none, some (.long ((irm x3 z13.2) - (irm x1 z16.2)).toInt64), none, some (.long ((x3 / z19.2) - (x1 / z22.2)).toInt64), none, some (.long ((((irm x2 z1.2) - (irm x1 z4.2)).toInt64 * ((x3 / z19.2) - (x1 / z22.2)).toInt64) - (((irm x3 z13.2) - (irm x1 z16.2)).toInt64 * ((x2 / z7.2) - (x1 / z10.2)).toInt64))), none, none, none, none, none, none, none]) (st' := [.int (lg_cmp ((((irm x2 z1.2) - (irm x1 z4.2)).toInt64 * ((x3 / z19.2) - (x1 / z22.2)).toInt64) - (((irm x3 z13.2) - (irm x1 z16.2)).toInt64 * ((x2 / z7.2) - (x1 / z10.2)).toInt64)) (0 : Int64))]) rfl ?_
  by_cases c25 : (lg_cmp ((((irm x2 z1.2) - (irm x1 z4.2)).toInt64 * ((x3 / z19.2) - (x1 / z22.2)).toInt64) - (((irm x3 z13.2) - (irm x1 z16.2)).toInt64 * ((x2 / z7.2) - (x1 / z10.2)).toInt64)) (0 : Int64)) = 0
  · rw [if_pos c25] at h
    refine E_jt rfl rfl c25 ?_
    refine E_blk rfl ?_
    refine E_ps 1 (pc' := 85) (l' := [some (.ref x0), some (.int x1), some (.int x2), some (.int x3), some (.long ((irm x2 z1.2) - (irm x1 z4.2)).toInt64), none, some (.long ((x2 / z7.2) - (x1 / z10.2)).toInt64), none, some (.long ((irm x3 z13.2) - (irm x1 z16.2)).toInt64), none, some (.long ((x3 / z19.2) - (x1 / z22.2)).toInt64), none, some (.long ((((irm x2 z1.2) - (irm x1 z4.2)).toInt64 * ((x3 / z19.2) - (x1 / z22.2)).toInt64) - (((irm x3 z13.2) - (irm x1 z16.2)).toInt64 * ((x2 / z7.2) - (x1 / z10.2)).toInt64))), none, none, none, none, none, none, none]) (st' := [.int (0 : Int32)]) rfl ?_
    cases h
    exact E_ret rfl (pg_mt_md (by decide)) rfl hr
  · rw [if_neg c25] at h
    refine E_jf rfl rfl c25 ?_
    refine E_blk rfl ?_
    refine E_ps 1 (pc' := 87) (l' := [some (.ref x0), some (.int x1), some (.int x2), some (.int x3), some (.long ((irm x2 z1.2) - (irm x1 z4.2)).toInt64), none, some (.long ((x2 / z7.2) - (x1 / z10.2)).toInt64), none, some (.long ((irm x3 z13.2) - (irm x1 z16.2)).toInt64), none, some (.long ((x3 / z19.2) - (x1 / z22.2)).toInt64), none, some (.long ((((irm x2 z1.2) - (irm x1 z4.2)).toInt64 * ((x3 / z19.2) - (x1 / z22.2)).toInt64) - (((irm x3 z13.2) - (irm x1 z16.2)).toInt64 * ((x2 / z7.2) - (x1 / z10.2)).toInt64))), none, none, none, none, none, none, none]) (st' := [.ref x0]) rfl ?_
    obtain ⟨a26, e27, h⟩ := Option.bind_eq_some_iff.mp h
    refine E_gr k0 (by decide) rfl e27 ?_
    refine E_ps 1 (pc' := 91) (l' := [some (.ref x0), some (.int x1), some (.int x2), some (.int x3), some (.long ((irm x2 z1.2) - (irm x1 z4.2)).toInt64), none, some (.long ((x2 / z7.2) - (x1 / z10.2)).toInt64), none, some (.long ((irm x3 z13.2) - (irm x1 z16.2)).toInt64), none, some (.long ((x3 / z19.2) - (x1 / z22.2)).toInt64), none, some (.long ((((irm x2 z1.2) - (irm x1 z4.2)).toInt64 * ((x3 / z19.2) - (x1 / z22.2)).toInt64) - (((irm x3 z13.2) - (irm x1 z16.2)).toInt64 * ((x2 / z7.2) - (x1 / z10.2)).toInt64))), none, none, none, none, none, none, none]) (st' := [.int x2, .ref a26]) rfl ?_
    obtain ⟨v28, e29, h⟩ := Option.bind_eq_some_iff.mp h
    refine E_ai e29 ?_
    refine E_ps 1 (pc' := 93) (l' := [some (.ref x0), some (.int x1), some (.int x2), some (.int x3), some (.long ((irm x2 z1.2) - (irm x1 z4.2)).toInt64), none, some (.long ((x2 / z7.2) - (x1 / z10.2)).toInt64), none, some (.long ((irm x3 z13.2) - (irm x1 z16.2)).toInt64), none, some (.long ((x3 / z19.2) - (x1 / z22.2)).toInt64), none, some (.long ((((irm x2 z1.2) - (irm x1 z4.2)).toInt64 * ((x3 / z19.2) - (x1 / z22.2)).toInt64) - (((irm x3 z13.2) - (irm x1 z16.2)).toInt64 * ((x2 / z7.2) - (x1 / z10.2)).toInt64))), none, none, none, none, none, none, none]) (st' := [.ref x0, .int v28]) rfl ?_
    obtain ⟨a30, e31, h⟩ := Option.bind_eq_some_iff.mp h
    refine E_gr k0 (by decide) rfl e31 ?_
    refine E_ps 1 (pc' := 97) (l' := [some (.ref x0), some (.int x1), some (.int x2), some (.int x3), some (.long ((irm x2 z1.2) - (irm x1 z4.2)).toInt64), none, some (.long ((x2 / z7.2) - (x1 / z10.2)).toInt64), none, some (.long ((irm x3 z13.2) - (irm x1 z16.2)).toInt64), none, some (.long ((x3 / z19.2) - (x1 / z22.2)).toInt64), none, some (.long ((((irm x2 z1.2) - (irm x1 z4.2)).toInt64 * ((x3 / z19.2) - (x1 / z22.2)).toInt64) - (((irm x3 z13.2) - (irm x1 z16.2)).toInt64 * ((x2 / z7.2) - (x1 / z10.2)).toInt64))), none, none, none, none, none, none, none]) (st' := [.int x1, .ref a30, .int v28]) rfl ?_
    obtain ⟨v32, e33, h⟩ := Option.bind_eq_some_iff.mp h
    refine E_ai e33 ?_
    refine E_ps 4 (pc' := 103) (l' := [some (.ref x0), some (.int x1), some (.int x2), some (.int x3), some (.long ((irm x2 z1.2) - (irm x1 z4.2)).toInt64), none, some (.long ((x2 / z7.2) - (x1 / z10.2)).toInt64), none, some (.long ((irm x3 z13.2) - (irm x1 z16.2)).toInt64), none, some (.long ((x3 / z19.2) - (x1 / z22.2)).toInt64), none, some (.long ((((irm x2 z1.2) - (irm x1 z4.2)).toInt64 * ((x3 / z19.2) - (x1 / z22.2)).toInt64) - (((irm x3 z13.2) - (irm x1 z16.2)).toInt64 * ((x2 / z7.2) - (x1 / z10.2)).toInt64))), none, some (.long (v28 - v32).toInt64), none, none, none, none, none]) (st' := [.ref x0]) rfl ?_
    obtain ⟨a34, e35, h⟩ := Option.bind_eq_some_iff.mp h
    refine E_gr k0 (by decide) rfl e35 ?_
    refine E_ps 1 (pc' := 107) (l' := [some (.ref x0), some (.int x1), some (.int x2), some (.int x3), some (.long ((irm x2 z1.2) - (irm x1 z4.2)).toInt64), none, some (.long ((x2 / z7.2) - (x1 / z10.2)).toInt64), none, some (.long ((irm x3 z13.2) - (irm x1 z16.2)).toInt64), none, some (.long ((x3 / z19.2) - (x1 / z22.2)).toInt64), none, some (.long ((((irm x2 z1.2) - (irm x1 z4.2)).toInt64 * ((x3 / z19.2) - (x1 / z22.2)).toInt64) - (((irm x3 z13.2) - (irm x1 z16.2)).toInt64 * ((x2 / z7.2) - (x1 / z10.2)).toInt64))), none, some (.long (v28 - v32).toInt64), none, none, none, none, none]) (st' := [.int x3, .ref a34]) rfl ?_
    obtain ⟨v36, e37, h⟩ := Option.bind_eq_some_iff.mp h
    refine E_ai e37 ?_
    refine E_ps 1 (pc' := 109) (l' := [some (.ref x0), some (.int x1), some (.int x2), some (.int x3), some (.long ((irm x2 z1.2) - (irm x1 z4.2)).toInt64), none, some (.long ((x2 / z7.2) - (x1 / z10.2)).toInt64), none, some (.long ((irm x3 z13.2) - (irm x1 z16.2)).toInt64), none, some (.long ((x3 / z19.2) - (x1 / z22.2)).toInt64), none, some (.long ((((irm x2 z1.2) - (irm x1 z4.2)).toInt64 * ((x3 / z19.2) - (x1 / z22.2)).toInt64) - (((irm x3 z13.2) - (irm x1 z16.2)).toInt64 * ((x2 / z7.2) - (x1 / z10.2)).toInt64))), none, some (.long (v28 - v32).toInt64), none, none, none, none, none]) (st' := [.ref x0, .int v36]) rfl ?_
    obtain ⟨a38, e39, h⟩ := Option.bind_eq_some_iff.mp h
    refine E_gr k0 (by decide) rfl e39 ?_
    refine E_ps 1 (pc' := 113) (l' := [some (.ref x0), some (.int x1), some (.int x2), some (.int x3), some (.long ((irm x2 z1.2) - (irm x1 z4.2)).toInt64), none, some (.long ((x2 / z7.2) - (x1 / z10.2)).toInt64), none, some (.long ((irm x3 z13.2) - (irm x1 z16.2)).toInt64), none, some (.long ((x3 / z19.2) - (x1 / z22.2)).toInt64), none, some (.long ((((irm x2 z1.2) - (irm x1 z4.2)).toInt64 * ((x3 / z19.2) - (x1 / z22.2)).toInt64) - (((irm x3 z13.2) - (irm x1 z16.2)).toInt64 * ((x2 / z7.2) - (x1 / z10.2)).toInt64))), none, some (.long (v28 - v32).toInt64), none, none, none, none, none]) (st' := [.int x1, .ref a38, .int v36]) rfl ?_
    obtain ⟨v40, e41, h⟩ := Option.bind_eq_some_iff.mp h
    refine E_ai e41 ?_
    refine E_ps 6 (pc' := 122) (l' := [some (.ref x0), some (.int x1), some (.int x2), some (.int x3), some (.long ((irm x2 z1.2) - (irm x1 z4.2)).toInt64), none, some (.long ((x2 / z7.2) - (x1 / z10.2)).toInt64), none, some (.long ((irm x3 z13.2) - (irm x1 z16.2)).toInt64), none, some (.long ((x3 / z19.2) - (x1 / z22.2)).toInt64), none, some (.long ((((irm x2 z1.2) - (irm x1 z4.2)).toInt64 * ((x3 / z19.2) - (x1 / z22.2)).toInt64) - (((irm x3 z13.2) - (irm x1 z16.2)).toInt64 * ((x2 / z7.2) - (x1 / z10.2)).toInt64))), none, some (.long (v28 - v32).toInt64), none, some (.long (v36 - v40).toInt64), none, none, none]) (st' := [.int (lg_cmp ((((irm x2 z1.2) - (irm x1 z4.2)).toInt64 * ((x3 / z19.2) - (x1 / z22.2)).toInt64) - (((irm x3 z13.2) - (irm x1 z16.2)).toInt64 * ((x2 / z7.2) - (x1 / z10.2)).toInt64)) (0 : Int64))]) rfl ?_
    by_cases c42 : 0 ≤ (lg_cmp ((((irm x2 z1.2) - (irm x1 z4.2)).toInt64 * ((x3 / z19.2) - (x1 / z22.2)).toInt64) - (((irm x3 z13.2) - (irm x1 z16.2)).toInt64 * ((x2 / z7.2) - (x1 / z10.2)).toInt64)) (0 : Int64))
    · rw [if_pos c42] at h
      refine E_jt rfl rfl c42 ?_
      refine E_blk rfl ?_
      refine E_ps 1 (pc' := 132) (l' := [some (.ref x0), some (.int x1), some (.int x2), some (.int x3), some (.long ((irm x2 z1.2) - (irm x1 z4.2)).toInt64), none, some (.long ((x2 / z7.2) - (x1 / z10.2)).toInt64), none, some (.long ((irm x3 z13.2) - (irm x1 z16.2)).toInt64), none, some (.long ((x3 / z19.2) - (x1 / z22.2)).toInt64), none, some (.long ((((irm x2 z1.2) - (irm x1 z4.2)).toInt64 * ((x3 / z19.2) - (x1 / z22.2)).toInt64) - (((irm x3 z13.2) - (irm x1 z16.2)).toInt64 * ((x2 / z7.2) - (x1 / z10.2)).toInt64))), none, some (.long (v28 - v32).toInt64), none, some (.long (v36 - v40).toInt64), none, none, none]) (st' := [.long (1 : Int64)]) rfl ?_
      exact E_wk (l' := [some (.ref x0), none, none, none, some (.long ((irm x2 z1.2) - (irm x1 z4.2)).toInt64), none, some (.long ((x2 / z7.2) - (x1 / z10.2)).toInt64), none, some (.long ((irm x3 z13.2) - (irm x1 z16.2)).toInt64), none, some (.long ((x3 / z19.2) - (x1 / z22.2)).toInt64), none, some (.long ((((irm x2 z1.2) - (irm x1 z4.2)).toInt64 * ((x3 / z19.2) - (x1 / z22.2)).toInt64) - (((irm x3 z13.2) - (irm x1 z16.2)).toInt64 * ((x2 / z7.2) - (x1 / z10.2)).toInt64))), none, some (.long (v28 - v32).toInt64), none, some (.long (v36 - v40).toInt64), none, none, none]) ⟨rfl, rfl, rfl, rfl, rfl, rfl, rfl, rfl, trivial⟩ (s208_132 k0 h hr)
    · rw [if_neg c42] at h
      refine E_jf rfl rfl c42 ?_
      refine E_blk rfl ?_
      refine E_ps 1 (pc' := 128) (l' := [some (.ref x0), some (.int x1), some (.int x2), some (.int x3), some (.long ((irm x2 z1.2) - (irm x1 z4.2)).toInt64), none, some (.long ((x2 / z7.2) - (x1 / z10.2)).toInt64), none, some (.long ((irm x3 z13.2) - (irm x1 z16.2)).toInt64), none, some (.long ((x3 / z19.2) - (x1 / z22.2)).toInt64), none, some (.long ((((irm x2 z1.2) - (irm x1 z4.2)).toInt64 * ((x3 / z19.2) - (x1 / z22.2)).toInt64) - (((irm x3 z13.2) - (irm x1 z16.2)).toInt64 * ((x2 / z7.2) - (x1 / z10.2)).toInt64))), none, some (.long (v28 - v32).toInt64), none, some (.long (v36 - v40).toInt64), none, none, none]) (st' := [.long (-1 : Int64)]) rfl ?_
      refine E_j rfl rfl ?_
      exact E_wk (l' := [some (.ref x0), none, none, none, some (.long ((irm x2 z1.2) - (irm x1 z4.2)).toInt64), none, some (.long ((x2 / z7.2) - (x1 / z10.2)).toInt64), none, some (.long ((irm x3 z13.2) - (irm x1 z16.2)).toInt64), none, some (.long ((x3 / z19.2) - (x1 / z22.2)).toInt64), none, some (.long ((((irm x2 z1.2) - (irm x1 z4.2)).toInt64 * ((x3 / z19.2) - (x1 / z22.2)).toInt64) - (((irm x3 z13.2) - (irm x1 z16.2)).toInt64 * ((x2 / z7.2) - (x1 / z10.2)).toInt64))), none, some (.long (v28 - v32).toInt64), none, some (.long (v36 - v40).toInt64), none, none, none]) ⟨rfl, rfl, rfl, rfl, rfl, rfl, rfl, rfl, trivial⟩ (s208_132 k0 h hr)

-- 209: ThreePlatesModel.above(IIJJJ)J
def dn209 (o : xH × Option Value) (r : xS × Int64) : Prop := o = (hk_of r.1, some (.long r.2))
noncomputable def f209 (x0 : Nat) (x1 : Int32) (x2 : Int32) (x3 : Int64) (x5 : Int64) (x7 : Int64) (s : xS) : Option (xS × Int64) := ifg (oK x0 12 = true) <| (hk_R x0 40).bind fun a1 => (aI s a1 x2).bind fun v3 => (hk_R x0 40).bind fun a5 => (aI s a5 x1).bind fun v7 => (f196 x0 s).bind fun z9 => ifg (¬ z9.2 = 0) <| (f196 x0 z9.1).bind fun z12 => ifg (¬ z12.2 = 0) <| (f196 x0 z12.1).bind fun z15 => ifg (¬ z15.2 = 0) <| (f196 x0 z15.1).bind fun z18 => ifg (¬ z18.2 = 0) <| some (z18.1, (((x7 * (v3 - v7).toInt64) + (x3 * ((irm x1 z9.2) - (irm x2 z12.2)).toInt64)) + (x5 * ((x1 / z15.2) - (x2 / z18.2)).toInt64)))
set_option maxRecDepth 20000 in
theorem s209 {sc : Option (Nat × (Nat → Int32))} {x0 : Nat} {x1 : Int32} {x2 : Int32} {x3 : Int64} {x5 : Int64} {x7 : Int64} {s : xS} {r : xS × Int64} (h : f209 x0 x1 x2 x3 x5 x7 s = some r) : Cl sc 2 209 [.ref x0, .int x1, .int x2, .long x3, .long x5, .long x7] (hk_of s) (hk_of r.1, some (.long r.2)) := by
  unfold f209 at h
  obtain ⟨k0, h⟩ := ifg_some h
  refine ⟨pg_md 209, [some (.ref x0), some (.int x1), some (.int x2), some (.long x3), none, some (.long x5), none, some (.long x7), none], pg_mt_md (by decide), (hk_rcv k0), rfl, ?_⟩
  generalize ho : ((hk_of r.1, some (Value.long r.2)) : xH × Option Value) = o
  have hr : dn209 o r := ho.symm
  refine E_blk rfl ?_
  refine E_ps 2 (pc' := 3) (l' := [some (.ref x0), some (.int x1), some (.int x2), some (.long x3), none, some (.long x5), none, some (.long x7), none]) (st' := [.ref x0, .long x7]) rfl ?_
  obtain ⟨a1, e2, h⟩ := Option.bind_eq_some_iff.mp h
  refine E_gr k0 (by decide) rfl e2 ?_
  refine E_ps 1 (pc' := 7) (l' := [some (.ref x0), some (.int x1), some (.int x2), some (.long x3), none, some (.long x5), none, some (.long x7), none]) (st' := [.int x2, .ref a1, .long x7]) rfl ?_
  obtain ⟨v3, e4, h⟩ := Option.bind_eq_some_iff.mp h
  refine E_ai e4 ?_
  refine E_ps 1 (pc' := 9) (l' := [some (.ref x0), some (.int x1), some (.int x2), some (.long x3), none, some (.long x5), none, some (.long x7), none]) (st' := [.ref x0, .int v3, .long x7]) rfl ?_
  obtain ⟨a5, e6, h⟩ := Option.bind_eq_some_iff.mp h
  refine E_gr k0 (by decide) rfl e6 ?_
  refine E_ps 1 (pc' := 13) (l' := [some (.ref x0), some (.int x1), some (.int x2), some (.long x3), none, some (.long x5), none, some (.long x7), none]) (st' := [.int x1, .ref a5, .int v3, .long x7]) rfl ?_
  obtain ⟨v7, e8, h⟩ := Option.bind_eq_some_iff.mp h
  refine E_ai e8 ?_
  refine E_ps 6 (pc' := 20) (l' := [some (.ref x0), some (.int x1), some (.int x2), some (.long x3), none, some (.long x5), none, some (.long x7), none]) (st' := [.ref x0, .int x1, .long x3, .long (x7 * (v3 - v7).toInt64)]) rfl ?_
  obtain ⟨z9, e10, h⟩ := Option.bind_eq_some_iff.mp h
  refine E_callI (vs := [.ref x0]) (rest := [.int x1, .long x3, .long (x7 * (v3 - v7).toInt64)]) rfl (by decide) rfl rfl (Nat.le_of_ble_eq_true rfl) (s196 e10) (by decide) ?_
  obtain ⟨g11, h⟩ := ifg_some h
  refine E_irem g11 ?_
  refine E_ps 2 (pc' := 26) (l' := [some (.ref x0), some (.int x1), some (.int x2), some (.long x3), none, some (.long x5), none, some (.long x7), none]) (st' := [.ref x0, .int x2, .int (irm x1 z9.2), .long x3, .long (x7 * (v3 - v7).toInt64)]) rfl ?_
  obtain ⟨z12, e13, h⟩ := Option.bind_eq_some_iff.mp h
  refine E_callI (vs := [.ref x0]) (rest := [.int x2, .int (irm x1 z9.2), .long x3, .long (x7 * (v3 - v7).toInt64)]) rfl (by decide) rfl rfl (Nat.le_of_ble_eq_true rfl) (s196 e13) (by decide) ?_
  obtain ⟨g14, h⟩ := ifg_some h
  refine E_irem g14 ?_
  refine E_ps 7 (pc' := 38) (l' := [some (.ref x0), some (.int x1), some (.int x2), some (.long x3), none, some (.long x5), none, some (.long x7), none]) (st' := [.ref x0, .int x1, .long x5, .long ((x7 * (v3 - v7).toInt64) + (x3 * ((irm x1 z9.2) - (irm x2 z12.2)).toInt64))]) rfl ?_
  obtain ⟨z15, e16, h⟩ := Option.bind_eq_some_iff.mp h
  refine E_callI (vs := [.ref x0]) (rest := [.int x1, .long x5, .long ((x7 * (v3 - v7).toInt64) + (x3 * ((irm x1 z9.2) - (irm x2 z12.2)).toInt64))]) rfl (by decide) rfl rfl (Nat.le_of_ble_eq_true rfl) (s196 e16) (by decide) ?_
  obtain ⟨g17, h⟩ := ifg_some h
  refine E_idiv g17 ?_
  refine E_ps 2 (pc' := 44) (l' := [some (.ref x0), some (.int x1), some (.int x2), some (.long x3), none, some (.long x5), none, some (.long x7), none]) (st' := [.ref x0, .int x2, .int (x1 / z15.2), .long x5, .long ((x7 * (v3 - v7).toInt64) + (x3 * ((irm x1 z9.2) - (irm x2 z12.2)).toInt64))]) rfl ?_
  obtain ⟨z18, e19, h⟩ := Option.bind_eq_some_iff.mp h
  refine E_callI (vs := [.ref x0]) (rest := [.int x2, .int (x1 / z15.2), .long x5, .long ((x7 * (v3 - v7).toInt64) + (x3 * ((irm x1 z9.2) - (irm x2 z12.2)).toInt64))]) rfl (by decide) rfl rfl (Nat.le_of_ble_eq_true rfl) (s196 e19) (by decide) ?_
  obtain ⟨g20, h⟩ := ifg_some h
  refine E_idiv g20 ?_
  refine E_ps 4 (pc' := 52) (l' := [some (.ref x0), some (.int x1), some (.int x2), some (.long x3), none, some (.long x5), none, some (.long x7), none]) (st' := [.long (((x7 * (v3 - v7).toInt64) + (x3 * ((irm x1 z9.2) - (irm x2 z12.2)).toInt64)) + (x5 * ((x1 / z15.2) - (x2 / z18.2)).toInt64))]) rfl ?_
  cases h
  exact E_ret rfl (pg_mt_md (by decide)) rfl hr
