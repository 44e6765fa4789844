-- 33: ThreePlates$Laying.pairOverLower(I)I
def dn33 (o : xH × Option Value) (r : xS × Int32) : Prop := o = (hk_of r.1, some (.int r.2))
def dn33_2 (sc : Option (Nat × (Nat → Int32))) (x0 : Nat) (x1 : Int32) (o : xH × Option Value) (r : ((Int32 × xS) ⊕ (xS × Int32))) : Prop := match r with
  | .inl q => Ev sc 1 33 [] 2 [some (.ref x0), some (.int x1), some (.int q.1)] [] (hk_of q.2) o
  | .inr r => dn33 o r
noncomputable def f33_2 (x0 : Nat) (x1 : Int32) (x2 : Int32) (s : xS) : Option ((Int32 × xS) ⊕ (xS × Int32)) := if (s.1 x0 7) ≤ x2 then (Option.map Sum.inr (some (s, (-1 : Int32)))) else ((hk_R x0 5).bind fun a2 => (aI s a2 x2).bind fun v4 => if v4 = x1 then (Option.map Sum.inr (some (s, x2))) else (some (Sum.inl ((x2 + (1 : Int32)), s))))
set_option maxRecDepth 20000 in
theorem s33_2 {sc : Option (Nat × (Nat → Int32))} {x0 : Nat} {x1 : Int32} {x2 : Int32} {s : xS} {o : xH × Option Value} {r : ((Int32 × xS) ⊕ (xS × Int32))} (k0 : oK x0 3 = true) (h : f33_2 x0 x1 x2 s = some r) (hr : dn33_2 sc x0 x1 o r) : Ev sc 1 33 [] 2 [some (.ref x0), some (.int x1), some (.int x2)] [] (hk_of s) o := by
  unfold f33_2 at h
  refine E_blk rfl ?_
  refine E_ps 2 (pc' := 4) (l' := [some (.ref x0), some (.int x1), some (.int x2)]) (st' := [.ref x0, .int x2]) rfl ?_
  refine E_gi k0 (by decide) rfl ?_
  by_cases c1 : (s.1 x0 7) ≤ x2
  · rw [if_pos c1] at h
    refine E_jt rfl rfl c1 ?_
    obtain ⟨r, h, hr⟩ := lf_some (Dn := dn33_2 sc x0 x1 o) h hr
    refine E_blk rfl ?_
    refine E_ps 1 (pc' := 29) (l' := [some (.ref x0), some (.int x1), some (.int x2)]) (st' := [.int (-1 : Int32)]) rfl ?_
    cases h
    exact E_ret rfl (pg_mt_md (by decide)) rfl hr
  · rw [if_neg c1] at h
    refine E_jf rfl rfl c1 ?_
    refine E_blk rfl ?_
    refine E_ps 1 (pc' := 11) (l' := [some (.ref x0), some (.int x1), some (.int x2)]) (st' := [.ref x0]) rfl ?_
    obtain ⟨a2, e3, h⟩ := Option.bind_eq_some_iff.mp h
    refine E_gr k0 (by decide) rfl e3 ?_
    refine E_ps 1 (pc' := 15) (l' := [some (.ref x0), some (.int x1), some (.int x2)]) (st' := [.int x2, .ref a2]) rfl ?_
    obtain ⟨v4, e5, h⟩ := Option.bind_eq_some_iff.mp h
    refine E_ai e5 ?_
    refine E_ps 1 (pc' := 17) (l' := [some (.ref x0), some (.int x1), some (.int x2)]) (st' := [.int x1, .int v4]) rfl ?_
    by_cases c6 : v4 = x1
    · rw [if_pos c6] at h
      refine E_jt rfl rfl c6 ?_
      obtain ⟨r, h, hr⟩ := lf_some (Dn := dn33_2 sc x0 x1 o) h hr
      refine E_blk rfl ?_
      refine E_ps 1 (pc' := 21) (l' := [some (.ref x0), some (.int x1), some (.int x2)]) (st' := [.int x2]) rfl ?_
      cases h
      exact E_ret rfl (pg_mt_md (by decide)) rfl hr
    · rw [if_neg c6] at h
      refine E_jf rfl rfl c6 ?_
      refine E_blk rfl ?_
      refine E_ps 1 (pc' := 25) (l' := [some (.ref x0), some (.int x1), some (.int (x2 + (1 : Int32)))]) (st' := []) rfl ?_
      refine E_j rfl rfl ?_
      cases h
      exact E_wk (l' := [some (.ref x0), some (.int x1), some (.int (x2 + (1 : Int32)))]) ⟨rfl, rfl, rfl, trivial⟩ hr
theorem s33_2_w {sc : Option (Nat × (Nat → Int32))} {x0 : Nat} {x1 : Int32} {x2 : Int32} {s : xS} {o : xH × Option Value} {r : (xS × Int32)} (k0 : oK x0 3 = true) (h : whl (fun q : (Int32 × xS) => f33_2 x0 x1 q.1 q.2) (x2, s) = some r) (hr : dn33 o r) : Ev sc 1 33 [] 2 [some (.ref x0), some (.int x1), some (.int x2)] [] (hk_of s) o := by
  refine whl_snd (E := fun q : (Int32 × xS) => Ev sc 1 33 [] 2 [some (.ref x0), some (.int x1), some (.int q.1)] [] (hk_of q.2) o) (P := fun r => dn33 o r) (fun q r h hr => ?_) h hr
  exact s33_2 k0 h (by cases r <;> exact hr)
noncomputable def f33 (x0 : Nat) (x1 : Int32) (s : xS) : Option (xS × Int32) := ifg (oK x0 3 = true) <| whl (fun q : (Int32 × xS) => f33_2 x0 x1 q.1 q.2) ((0 : Int32), s)
set_option maxRecDepth 20000 in
theorem s33 {sc : Option (Nat × (Nat → Int32))} {x0 : Nat} {x1 : Int32} {s : xS} {r : xS × Int32} (h : f33 x0 x1 s = some r) : Cl sc 1 33 [.ref x0, .int x1] (hk_of s) (hk_of r.1, some (.int r.2)) := by
  unfold f33 at h
  obtain ⟨k0, h⟩ := ifg_some h
  refine ⟨pg_md 33, [some (.ref x0), some (.int x1), none], pg_mt_md (by decide), (hk_rcv k0), rfl, ?_⟩
  generalize ho : ((hk_of r.1, some (Value.int r.2)) : xH × Option Value) = o
  have hr : dn33 o r := ho.symm
  refine E_blk rfl ?_
  refine E_ps 2 (pc' := 2) (l' := [some (.ref x0), some (.int x1), some (.int (0 : Int32))]) (st' := []) rfl ?_
  exact E_wk (l' := [some (.ref x0), some (.int x1), some (.int (0 : Int32))]) ⟨rfl, rfl, rfl, trivial⟩ (s33_2_w k0 h hr)

-- 34: ThreePlates$Laying.reds([I)I
def dn34 (o : xH × Option Value) (r : xS × Int32) : Prop := o = (hk_of r.1, some (.int r.2))
def dn34_4 (sc : Option (Nat × (Nat → Int32))) (x0 : Nat) (x1 : Nat) (o : xH × Option Value) (r : ((Int32 × Int32 × xS) ⊕ (xS × Int32))) : Prop := match r with
  | .inl q => Ev sc 1 34 [] 4 [some (.ref x0), some (.ref x1), some (.int q.1), some (.int q.2.1)] [] (hk_of q.2.2) o
  | .inr r => dn34 o r
noncomputable def f34_47 (x0 : Nat) (x1 : Nat) (x2 : Int32) (x3 : Int32) (s : xS) : Option ((Int32 × Int32 × xS) ⊕ (xS × Int32)) := some (Sum.inl (x2, (x3 + (1 : Int32)), s))
set_option maxRecDepth 20000 in
theorem s34_47 {sc : Option (Nat × (Nat → Int32))} {x0 : Nat} {x1 : Nat} {x2 : Int32} {x3 : Int32} {s : xS} {o : xH × Option Value} {r : ((Int32 × Int32 × xS) ⊕ (xS × Int32))} (k0 : oK x0 3 = true) (h : f34_47 x0 x1 x2 x3 s = some r) (hr : dn34_4 sc x0 x1 o r) : Ev sc 1 34 [] 47 [some (.ref x0), some (.ref x1), some (.int x2), some (.int x3)] [] (hk_of s) o := by
  unfold f34_47 at h
  refine E_blk rfl ?_
  refine E_ps 1 (pc' := 50) (l' := [some (.ref x0), some (.ref x1), some (.int x2), some (.int (x3 + (1 : Int32)))]) (st' := []) rfl ?_
  refine E_j rfl rfl ?_
  cases h
  exact E_wk (l' := [some (.ref x0), some (.ref x1), some (.int x2), some (.int (x3 + (1 : Int32)))]) ⟨rfl, rfl, rfl, rfl, trivial⟩ hr
noncomputable def f34_4 (x0 : Nat) (x1 : Nat) (x2 : Int32) (x3 : Int32) (s : xS) : Option ((Int32 × Int32 × xS) ⊕ (xS × Int32)) := if (s.1 x0 7) ≤ x3 then (Option.map Sum.inr (some (s, x2))) else ((hk_R x0 1).bind fun a2 => (hk_R a2 4).bind fun a5 => (aI s a5 x3).bind fun v7 => (hk_R x0 0).bind fun a9 => (hk_R x0 1).bind fun a12 => if ((s.1 a9 4) * (s.1 a12 11)) < v7 then (f34_47 x0 x1 x2 x3 s) else ((aI s x1 x3).bind fun v16 => f34_47 x0 x1 (x2 ||| ((1 : Int32) <<< (v16 &&& 31))) x3 s))
set_option maxRecDepth 20000 in
theorem s34_4 {sc : Option (Nat × (Nat → Int32))} {x0 : Nat} {x1 : Nat} {x2 : Int32} {x3 : Int32} {s : xS} {o : xH × Option Value} {r : ((Int32 × Int32 × xS) ⊕ (xS × Int32))} (k0 : oK x0 3 = true) (h : f34_4 x0 x1 x2 x3 s = some r) (hr : dn34_4 sc x0 x1 o r) : Ev sc 1 34 [] 4 [some (.ref x0), some (.ref x1), some (.int x2), some (.int x3)] [] (hk_of s) o := by
  unfold f34_4 at h
  refine E_blk rfl ?_
  refine E_ps 2 (pc' := 6) (l' := [some (.ref x0), some (.ref x1), some (.int x2), some (.int x3)]) (st' := [.ref x0, .int x3]) rfl ?_
  refine E_gi k0 (by decide) rfl ?_
  by_cases c1 : (s.1 x0 7) ≤ x3
  · rw [if_pos c1] at h
    refine E_jt rfl rfl c1 ?_
    obtain ⟨r, h, hr⟩ := lf_some (Dn := dn34_4 sc x0 x1 o) h hr
    refine E_blk rfl ?_
    refine E_ps 1 (pc' := 54) (l' := [some (.ref x0), some (.ref x1), some (.int x2), some (.int x3)]) (st' := [.int x2]) rfl ?_
    cases h
    exact E_ret rfl (pg_mt_md (by decide)) rfl hr
  · rw [if_neg c1] at h
    refine E_jf rfl rfl c1 ?_
    refine E_blk rfl ?_
    refine E_ps 1 (pc' := 13) (l' := [some (.ref x0), some (.ref x1), some (.int x2), some (.int x3)]) (st' := [.ref x0]) rfl ?_
    obtain ⟨a2, e3, h⟩ := Option.bind_eq_some_iff.mp h
    refine E_gr k0 (by decide) rfl e3 ?_
    have kf4 : oK a2 5 = true := hk_rty k0 e3 rfl (by decide)
    obtain ⟨a5, e6, h⟩ := Option.bind_eq_some_iff.mp h
    refine E_gr kf4 (by decide) rfl e6 ?_
    refine E_ps 1 (pc' := 20) (l' := [some (.ref x0), some (.ref x1), some (.int x2), some (.int x3)]) (st' := [.int x3, .ref a5]) rfl ?_
    obtain ⟨v7, e8, h⟩ := Option.bind_eq_some_iff.mp h
    refine E_ai e8 ?_
    refine E_ps 1 (pc' := 22) (l' := [some (.ref x0), some (.ref x1), some (.int x2), some (.int x3)]) (st' := [.ref x0, .int v7]) rfl ?_
    obtain ⟨a9, e10, h⟩ := Option.bind_eq_some_iff.mp h
    refine E_gr k0 (by decide) rfl e10 ?_
    have kf11 : oK a9 7 = true := hk_rty k0 e10 rfl (by decide)
    refine E_gi kf11 (by decide) rfl ?_
    refine E_ps 1 (pc' := 29) (l' := [some (.ref x0), some (.ref x1), some (.int x2), some (.int x3)]) (st' := [.ref x0, .int (s.1 a9 4), .int v7]) rfl ?_
    obtain ⟨a12, e13, h⟩ := Option.bind_eq_some_iff.mp h
    refine E_gr k0 (by decide) rfl e13 ?_
    have kf14 : oK a12 5 = true := hk_rty k0 e13 rfl (by decide)
    refine E_gi kf14 (by decide) rfl ?_
    refine E_ps 1 (pc' := 36) (l' := [some (.ref x0), some (.ref x1), some (.int x2), some (.int x3)]) (st' := [.int ((s.1 a9 4) * (s.1 a12 11)), .int v7]) rfl ?_
    by_cases c15 : ((s.1 a9 4) * (s.1 a12 11)) < v7
    · rw [if_pos c15] at h
      refine E_jt rfl rfl c15 ?_
      exact E_wk (l' := [some (.ref x0), some (.ref x1), some (.int x2), some (.int x3)]) ⟨rfl, rfl, rfl, rfl, trivial⟩ (s34_47 k0 h hr)
    · rw [if_neg c15] at h
      refine E_jf rfl rfl c15 ?_
      refine E_blk rfl ?_
      refine E_ps 4 (pc' := 43) (l' := [some (.ref x0), some (.ref x1), some (.int x2), some (.int x3)]) (st' := [.int x3, .ref x1, .int (1 : Int32), .int x2]) rfl ?_
      obtain ⟨v16, e17, h⟩ := Option.bind_eq_some_iff.mp h
      refine E_ai e17 ?_
      refine E_ps 3 (pc' := 47) (l' := [some (.ref x0), some (.ref x1), some (.int (x2 ||| ((1 : Int32) <<< (v16 &&& 31)))), some (.int x3)]) (st' := []) rfl ?_
      exact E_wk (l' := [some (.ref x0), some (.ref x1), some (.int (x2 ||| ((1 : Int32) <<< (v16 &&& 31)))), some (.int x3)]) ⟨rfl, rfl, rfl, rfl, trivial⟩ (s34_47 k0 h hr)
theorem s34_4_w {sc : Option (Nat × (Nat → Int32))} {x0 : Nat} {x1 : Nat} {x2 : Int32} {x3 : Int32} {s : xS} {o : xH × Option Value} {r : (xS × Int32)} (k0 : oK x0 3 = true) (h : whl (fun q : (Int32 × Int32 × xS) => f34_4 x0 x1 q.1 q.2.1 q.2.2) (x2, x3, s) = some r) (hr : dn34 o r) : Ev sc 1 34 [] 4 [some (.ref x0), some (.ref x1), some (.int x2), some (.int x3)] [] (hk_of s) o := by
  refine whl_snd (E := fun q : (Int32 × Int32 × xS) => Ev sc 1 34 [] 4 [some (.ref x0), some (.ref x1), some (.int q.1), some (.int q.2.1)] [] (hk_of q.2.2) o) (P := fun r => dn34 o r) (fun q r h hr => ?_) h hr
  exact s34_4 k0 h (by cases r <;> exact hr)
noncomputable def f34 (x0 : Nat) (x1 : Nat) (s : xS) : Option (xS × Int32) := ifg (oK x0 3 = true) <| whl (fun q : (Int32 × Int32 × xS) => f34_4 x0 x1 q.1 q.2.1 q.2.2) ((0 : Int32), (0 : Int32), s)
set_option maxRecDepth 20000 in
theorem s34 {sc : Option (Nat × (Nat → Int32))} {x0 : Nat} {x1 : Nat} {s : xS} {r : xS × Int32} (h : f34 x0 x1 s = some r) : Cl sc 1 34 [.ref x0, .ref x1] (hk_of s) (hk_of r.1, some (.int r.2)) := by
  unfold f34 at h
  obtain ⟨k0, h⟩ := ifg_some h
  refine ⟨pg_md 34, [some (.ref x0), some (.ref x1), none, none], pg_mt_md (by decide), (hk_rcv k0), rfl, ?_⟩
  generalize ho : ((hk_of r.1, some (Value.int r.2)) : xH × Option Value) = o
  have hr : dn34 o r := ho.symm
  refine E_blk rfl ?_
  refine E_ps 4 (pc' := 4) (l' := [some (.ref x0), some (.ref x1), some (.int (0 : Int32)), some (.int (0 : Int32))]) (st' := []) rfl ?_
  exact E_wk (l' := [some (.ref x0), some (.ref x1), some (.int (0 : Int32)), some (.int (0 : Int32))]) ⟨rfl, rfl, rfl, rfl, trivial⟩ (s34_4_w k0 h hr)

-- 35: ThreePlates$Laying.redsToScrape(LThreePlates$Round;)I
def dn35 (o : xH × Option Value) (r : xS × Int32) : Prop := o = (hk_of r.1, some (.int r.2))
noncomputable def f35_23 (y0 : Nat) (y1 : Nat) (s : xS) : Option (xS × Int32) := (f34 y1 y0 s).bind fun z1 => some (z1.1, z1.2)
set_option maxRecDepth 20000 in
theorem s35_23 {sc : Option (Nat × (Nat → Int32))} {y0 : Nat} {y1 : Nat} {s : xS} {o : xH × Option Value} {r : (xS × Int32)} (ky1 : oK y1 3 = true) (h : f35_23 y0 y1 s = some r) (hr : dn35 o r) : Ev sc 2 35 [] 23 [none, none] [.ref y0, .ref y1] (hk_of s) o := by
  unfold f35_23 at h
  refine E_blk rfl ?_
  obtain ⟨z1, e2, h⟩ := Option.bind_eq_some_iff.mp h
  refine E_callI (vs := [.ref y1, .ref y0]) (rest := []) rfl (by decide) rfl rfl (Nat.le_of_ble_eq_true rfl) (s34 e2) (by decide) ?_
  cases h
  exact E_ret rfl (pg_mt_md (by decide)) rfl hr
noncomputable def f35 (x0 : Nat) (x1 : Nat) (s : xS) : Option (xS × Int32) := ifg (oK x0 3 = true) <| ifg (oK x1 6 = true) <| if (s.1 x1 5) = (s.1 x1 0) then ((hk_R x0 6).bind fun a2 => f35_23 a2 x0 s) else ((hk_R x0 5).bind fun a4 => f35_23 a4 x0 s)
set_option maxRecDepth 20000 in
theorem s35 {sc : Option (Nat × (Nat → Int32))} {x0 : Nat} {x1 : Nat} {s : xS} {r : xS × Int32} (h : f35 x0 x1 s = some r) : Cl sc 2 35 [.ref x0, .ref x1] (hk_of s) (hk_of r.1, some (.int r.2)) := by
  unfold f35 at h
  obtain ⟨k0, h⟩ := ifg_some h
  obtain ⟨k1, h⟩ := ifg_some h
  refine ⟨pg_md 35, [some (.ref x0), some (.ref x1)], pg_mt_md (by decide), (hk_rcv k0), rfl, ?_⟩
  generalize ho : ((hk_of r.1, some (Value.int r.2)) : xH × Option Value) = o
  have hr : dn35 o r := ho.symm
  refine E_blk rfl ?_
  refine E_ps 2 (pc' := 2) (l' := [some (.ref x0), some (.ref x1)]) (st' := [.ref x1, .ref x0]) rfl ?_
  refine E_gi k1 (by decide) rfl ?_
  refine E_ps 1 (pc' := 6) (l' := [some (.ref x0), some (.ref x1)]) (st' := [.ref x1, .int (s.1 x1 5), .ref x0]) rfl ?_
  refine E_gi k1 (by decide) rfl ?_
  by_cases c1 : (s.1 x1 5) = (s.1 x1 0)
  · rw [if_pos c1] at h
    refine E_jt rfl rfl c1 ?_
    refine E_blk rfl ?_
    refine E_ps 1 (pc' := 13) (l' := [some (.ref x0), some (.ref x1)]) (st' := [.ref x0, .ref x0]) rfl ?_
    obtain ⟨a2, e3, h⟩ := Option.bind_eq_some_iff.mp h
    refine E_gr k0 (by decide) rfl e3 ?_
    refine E_j rfl rfl ?_
    exact E_wk (l' := [none, none]) trivial (s35_23 k0 h hr)
  · rw [if_neg c1] at h
    refine E_jf rfl rfl c1 ?_
    refine E_blk rfl ?_
    refine E_ps 1 (pc' := 20) (l' := [some (.ref x0), some (.ref x1)]) (st' := [.ref x0, .ref x0]) rfl ?_
    obtain ⟨a4, e5, h⟩ := Option.bind_eq_some_iff.mp h
    refine E_gr k0 (by decide) rfl e5 ?_
    exact E_wk (l' := [none, none]) trivial (s35_23 k0 h hr)

-- 37: ThreePlates$Laying.scrapeCells(LThreePlates$Bench;IIII)I
def dn37 (o : xH × Option Value) (r : xS × Int32) : Prop := o = (hk_of r.1, some (.int r.2))
def dn37_6 (sc : Option (Nat × (Nat → Int32))) (x0 : Nat) (x1 : Nat) (x2 : Int32) (x3 : Int32) (x4 : Int32) (x5 : Int32) (o : xH × Option Value) (r : ((Int32 × Int32 × xS) ⊕ (xS × Int32))) : Prop := match r with
  | .inl q => Ev sc 3 37 [] 6 [some (.ref x0), some (.ref x1), some (.int x2), some (.int x3), some (.int x4), some (.int x5), some (.int q.1), some (.int q.2.1)] [] (hk_of q.2.2) o
  | .inr r => dn37 o r
noncomputable def f37_50 (x0 : Nat) (x1 : Nat) (x2 : Int32) (x3 : Int32) (x4 : Int32) (x5 : Int32) (x6 : Int32) (x7 : Int32) (s : xS) : Option ((Int32 × Int32 × xS) ⊕ (xS × Int32)) := some (Sum.inl (x6, (x7 + (1 : Int32)), s))
set_option maxRecDepth 20000 in
theorem s37_50 {sc : Option (Nat × (Nat → Int32))} {x0 : Nat} {x1 : Nat} {x2 : Int32} {x3 : Int32} {x4 : Int32} {x5 : Int32} {x6 : Int32} {x7 : Int32} {s : xS} {o : xH × Option Value} {r : ((Int32 × Int32 × xS) ⊕ (xS × Int32))} (k0 : oK x0 3 = true) (k1 : oK x1 0 = true) (h : f37_50 x0 x1 x2 x3 x4 x5 x6 x7 s = some r) (hr : dn37_6 sc x0 x1 x2 x3 x4 x5 o r) : Ev sc 3 37 [] 50 [some (.ref x0), some (.ref x1), some (.int x2), some (.int x3), some (.int x4), some (.int x5), some (.int x6), some (.int x7)] [] (hk_of s) o := by
  unfold f37_50 at h
  refine E_blk rfl ?_
  refine E_ps 1 (pc' := 53) (l' := [some (.ref x0), some (.ref x1), some (.int x2), some (.int x3), some (.int x4), some (.int x5), some (.int x6), some (.int (x7 + (1 : Int32)))]) (st' := []) rfl ?_
  refine E_j rfl rfl ?_
  cases h
  exact E_wk (l' := [some (.ref x0), some (.ref x1), some (.int x2), some (.int x3), some (.int x4), some (.int x5), some (.int x6), some (.int (x7 + (1 : Int32)))]) ⟨rfl, rfl, rfl, rfl, rfl, rfl, rfl, rfl, trivial⟩ hr
noncomputable def f37_6 (x0 : Nat) (x1 : Nat) (x2 : Int32) (x3 : Int32) (x4 : Int32) (x5 : Int32) (x6 : Int32) (x7 : Int32) (s : xS) : Option ((Int32 × Int32 × xS) ⊕ (xS × Int32)) := (hk_R x0 0).bind fun a1 => (f68 a1 s).bind fun z4 => if z4.2 ≤ x7 then (Option.map Sum.inr (some (z4.1, x6))) else (if ((xm_ush x3 x7) &&& (1 : Int32)) = 0 then (f37_50 x0 x1 x2 x3 x4 x5 x6 x7 z4.1) else ((hk_R x0 0).bind fun a8 => (f9 x1 x2 x7 x4 x5 (z4.1.1 a8 3) z4.1).bind fun z11 => f37_50 x0 x1 x2 x3 x4 x5 (x6 + z11.2) x7 z11.1))
set_option maxRecDepth 20000 in
theorem s37_6 {sc : Option (Nat × (Nat → Int32))} {x0 : Nat} {x1 : Nat} {x2 : Int32} {x3 : Int32} {x4 : Int32} {x5 : Int32} {x6 : Int32} {x7 : Int32} {s : xS} {o : xH × Option Value} {r : ((Int32 × Int32 × xS) ⊕ (xS × Int32))} (k0 : oK x0 3 = true) (k1 : oK x1 0 = true) (h : f37_6 x0 x1 x2 x3 x4 x5 x6 x7 s = some r) (hr : dn37_6 sc x0 x1 x2 x3 x4 x5 o r) : Ev sc 3 37 [] 6 [some (.ref x0), some (.ref x1), some (.int x2), some (.int x3), some (.int x4), some (.int x5), some (.int x6), some (.int x7)] [] (hk_of s) o := by
  unfold f37_6 at h
  refine E_blk rfl ?_
  refine E_ps 2 (pc' := 9) (l' := [some (.ref x0), some (.ref x1), some (.int x2), some (.int x3), some (.int x4), some (.int x5), some (.int x6), some (.int x7)]) (st' := [.ref x0, .int x7]) rfl ?_
  obtain ⟨a1, e2, h⟩ := Option.bind_eq_some_iff.mp h
  refine E_gr k0 (by decide) rfl e2 ?_
  have kf3 : oK a1 7 = true := hk_rty k0 e2 rfl (by decide)
  obtain ⟨z4, e5, h⟩ := Option.bind_eq_some_iff.mp h
  refine E_callI (vs := [.ref a1]) (rest := [.int x7]) rfl (by decide) rfl rfl (Nat.le_of_ble_eq_true rfl) (s68 e5) (by decide) ?_
  by_cases c6 : z4.2 ≤ x7
  · rw [if_pos c6] at h
    refine E_jt rfl rfl c6 ?_
    obtain ⟨r, h, hr⟩ := lf_some (Dn := dn37_6 sc x0 x1 x2 x3 x4 x5 o) h hr
    refine E_blk rfl ?_
    refine E_ps 1 (pc' := 58) (l' := [some (.ref x0), some (.ref x1), some (.int x2), some (.int x3), some (.int x4), some (.int x5), some (.int x6), some (.int x7)]) (st' := [.int x6]) rfl ?_
    cases h
    exact E_ret rfl (pg_mt_md (by decide)) rfl hr
  · rw [if_neg c6] at h
    refine E_jf rfl rfl c6 ?_
    refine E_blk rfl ?_
    refine E_ps 5 (pc' := 24) (l' := [some (.ref x0), some (.ref x1), some (.int x2), some (.int x3), some (.int x4), some (.int x5), some (.int x6), some (.int x7)]) (st' := [.int ((xm_ush x3 x7) &&& (1 : Int32))]) rfl ?_
    by_cases c7 : ((xm_ush x3 x7) &&& (1 : Int32)) = 0
    · rw [if_pos c7] at h
      refine E_jt rfl rfl c7 ?_
      exact E_wk (l' := [some (.ref x0), some (.ref x1), some (.int x2), some (.int x3), some (.int x4), some (.int x5), some (.int x6), some (.int x7)]) ⟨rfl, rfl, rfl, rfl, rfl, rfl, rfl, rfl, trivial⟩ (s37_50 k0 k1 h hr)
    · rw [if_neg c7] at h
      refine E_jf rfl rfl c7 ?_
      refine E_blk rfl ?_
      refine E_ps 7 (pc' := 38) (l' := [some (.ref x0), some (.ref x1), some (.int x2), some (.int x3), some (.int x4), some (.int x5), some (.int x6), some (.int x7)]) (st' := [.ref x0, .int x5, .int x4, .int x7, .int x2, .ref x1, .int x6]) rfl ?_
      obtain ⟨a8, e9, h⟩ := Option.bind_eq_some_iff.mp h
      refine E_gr k0 (by decide) rfl e9 ?_
      have kf10 : oK a8 7 = true := hk_rty k0 e9 rfl (by decide)
      refine E_gi kf10 (by decide) rfl ?_
      obtain ⟨z11, e12, h⟩ := Option.bind_eq_some_iff.mp h
      refine E_callI (vs := [.ref x1, .int x2, .int x7, .int x4, .int x5, .int (z4.1.1 a8 3)]) (rest := [.int x6]) rfl (by decide) rfl rfl (Nat.le_of_ble_eq_true rfl) (s9 e12) (by decide) ?_
      refine E_ps 2 (pc' := 50) (l' := [some (.ref x0), some (.ref x1), some (.int x2), some (.int x3), some (.int x4), some (.int x5), some (.int (x6 + z11.2)), some (.int x7)]) (st' := []) rfl ?_
      exact E_wk (l' := [some (.ref x0), some (.ref x1), some (.int x2), some (.int x3), some (.int x4), some (.int x5), some (.int (x6 + z11.2)), some (.int x7)]) ⟨rfl, rfl, rfl, rfl, rfl, rfl, rfl, rfl, trivial⟩ (s37_50 k0 k1 h hr)
theorem s37_6_w {sc : Option (Nat × (Nat → Int32))} {x0 : Nat} {x1 : Nat} {x2 : Int32} {x3 : Int32} {x4 : Int32} {x5 : Int32} {x6 : Int32} {x7 : Int32} {s : xS} {o : xH × Option Value} {r : (xS × Int32)} (k0 : oK x0 3 = true) (k1 : oK x1 0 = true) (h : whl (fun q : (Int32 × Int32 × xS) => f37_6 x0 x1 x2 x3 x4 x5 q.1 q.2.1 q.2.2) (x6, x7, s) = some r) (hr : dn37 o r) : Ev sc 3 37 [] 6 [some (.ref x0), some (.ref x1), some (.int x2), some (.int x3), some (.int x4), some (.int x5), some (.int x6), some (.int x7)] [] (hk_of s) o := by
  refine whl_snd (E := fun q : (Int32 × Int32 × xS) => Ev sc 3 37 [] 6 [some (.ref x0), some (.ref x1), some (.int x2), some (.int x3), some (.int x4), some (.int x5), some (.int q.1), some (.int q.2.1)] [] (hk_of q.2.2) o) (P := fun r => dn37 o r) (fun q r h hr => ?_) h hr
  exact s37_6 k0 k1 h (by cases r <;> exact hr)
noncomputable def f37 (x0 : Nat) (x1 : Nat) (x2 : Int32) (x3 : Int32) (x4 : Int32) (x5 : Int32) (s : xS) : Option (xS × Int32) := ifg (oK x0 3 = true) <| ifg (oK x1 0 = true) <| whl (fun q : (Int32 × Int32 × xS) => f37_6 x0 x1 x2 x3 x4 x5 q.1 q.2.1 q.2.2) ((0 : Int32), (0 : Int32), s)
set_option maxRecDepth 20000 in
theorem s37 {sc : Option (Nat × (Nat → Int32))} {x0 : Nat} {x1 : Nat} {x2 : Int32} {x3 : Int32} {x4 : Int32} {x5 : Int32} {s : xS} {r : xS × Int32} (h : f37 x0 x1 x2 x3 x4 x5 s = some r) : Cl sc 3 37 [.ref x0, .ref x1, .int x2, .int x3, .int x4, .int x5] (hk_of s) (hk_of r.1, some (.int r.2)) := by
  unfold f37 at h
  obtain ⟨k0, h⟩ := ifg_some h
  obtain ⟨k1, h⟩ := ifg_some h
  refine ⟨pg_md 37, [some (.ref x0), some (.ref x1), some (.int x2), some (.int x3), some (.int x4), some (.int x5), none, none], pg_mt_md (by decide), (hk_rcv k0), rfl, ?_⟩
  generalize ho : ((hk_of r.1, some (Value.int r.2)) : xH × Option Value) = o
  have hr : dn37 o r := ho.symm
  refine E_blk rfl ?_
  refine E_ps 4 (pc' := 6) (l' := [some (.ref x0), some (.ref x1), some (.int x2), some (.int x3), some (.int x4), some (.int x5), some (.int (0 : Int32)), some (.int (0 : Int32))]) (st' := []) rfl ?_
  exact E_wk (l' := [some (.ref x0), some (.ref x1), some (.int x2), some (.int x3), some (.int x4), some (.int x5), some (.int (0 : Int32)), some (.int (0 : Int32))]) ⟨rfl, rfl, rfl, rfl, rfl, rfl, rfl, rfl, trivial⟩ (s37_6_w k0 k1 h hr)

-- 36: ThreePlates$Laying.scrape(LThreePlates$Bench;LThreePlates$Round;)I
def dn36 (o : xH × Option Value) (r : xS × Int32) : Prop := o = (hk_of r.1, some (.int r.2))
noncomputable def f36 (x0 : Nat) (x1 : Nat) (x2 : Nat) (s : xS) : Option (xS × Int32) := ifg (oK x0 3 = true) <| ifg (oK x1 0 = true) <| ifg (oK x2 6 = true) <| (f26 x0 x1 (s.1 x2 1) (s.1 x2 0) (s.1 x2 2) (s.1 x2 3) (s.1 x2 4) s).bind fun z1 => (f35 x0 x2 z1.1).bind fun z3 => (hk_R x0 0).bind fun a5 => (f37 x0 x1 (z1.1.1 x2 5) z3.2 (z3.1.1 x2 6) (z3.1.1 a5 5) z3.1).bind fun z8 => some (z8.1, z8.2)
set_option maxRecDepth 20000 in
theorem s36 {sc : Option (Nat × (Nat → Int32))} {x0 : Nat} {x1 : Nat} {x2 : Nat} {s : xS} {r : xS × Int32} (h : f36 x0 x1 x2 s = some r) : Cl sc 5 36 [.ref x0, .ref x1, .ref x2] (hk_of s) (hk_of r.1, some (.int r.2)) := by
  unfold f36 at h
  obtain ⟨k0, h⟩ := ifg_some h
  obtain ⟨k1, h⟩ := ifg_some h
  obtain ⟨k2, h⟩ := ifg_some h
  refine ⟨pg_md 36, [some (.ref x0), some (.ref x1), some (.ref x2)], pg_mt_md (by decide), (hk_rcv k0), rfl, ?_⟩
  generalize ho : ((hk_of r.1, some (Value.int r.2)) : xH × Option Value) = o
  have hr : dn36 o r := ho.symm
  refine E_blk rfl ?_
  refine E_ps 3 (pc' := 3) (l' := [some (.ref x0), some (.ref x1), some (.ref x2)]) (st' := [.ref x2, .ref x1, .ref x0]) rfl ?_
  refine E_gi k2 (by decide) rfl ?_
  refine E_ps 1 (pc' := 7) (l' := [some (.ref x0), some (.ref x1), some (.ref x2)]) (st' := [.ref x2, .int (s.1 x2 1), .ref x1, .ref x0]) rfl ?_
  refine E_gi k2 (by decide) rfl ?_
  refine E_ps 1 (pc' := 11) (l' := [some (.ref x0), some (.ref x1), some (.ref x2)]) (st' := [.ref x2, .int (s.1 x2 0), .int (s.1 x2 1), .ref x1, .ref x0]) rfl ?_
  refine E_gi k2 (by decide) rfl ?_
  refine E_ps 1 (pc' := 15) (l' := [some (.ref x0), some (.ref x1), some (.ref x2)]) (st' := [.ref x2, .int (s.1 x2 2), .int (s.1 x2 0), .int (s.1 x2 1), .ref x1, .ref x0]) rfl ?_
  refine E_gi k2 (by decide) rfl ?_
  refine E_ps 1 (pc' := 19) (l' := [some (.ref x0), some (.ref x1), some (.ref x2)]) (st' := [.ref x2, .int (s.1 x2 3), .int (s.1 x2 2), .int (s.1 x2 0), .int (s.1 x2 1), .ref x1, .ref x0]) rfl ?_
  refine E_gi k2 (by decide) rfl ?_
  obtain ⟨z1, e2, h⟩ := Option.bind_eq_some_iff.mp h
  refine E_callV (vs := [.ref x0, .ref x1, .int (s.1 x2 1), .int (s.1 x2 0), .int (s.1 x2 2), .int (s.1 x2 3), .int (s.1 x2 4)]) (rest := []) rfl (by decide) rfl rfl (Nat.le_of_ble_eq_true rfl) (s26 e2) (by decide) ?_
  refine E_ps 3 (pc' := 28) (l' := [some (.ref x0), some (.ref x1), some (.ref x2)]) (st' := [.ref x2, .ref x1, .ref x0]) rfl ?_
  refine E_gi k2 (by decide) rfl ?_
  refine E_ps 2 (pc' := 33) (l' := [some (.ref x0), some (.ref x1), some (.ref x2)]) (st' := [.ref x2, .ref x0, .int (z1.1.1 x2 5), .ref x1, .ref x0]) rfl ?_
  obtain ⟨z3, e4, h⟩ := Option.bind_eq_some_iff.mp h
  refine E_callI (vs := [.ref x0, .ref x2]) (rest := [.int (z1.1.1 x2 5), .ref x1, .ref x0]) rfl (by decide) rfl rfl (Nat.le_of_ble_eq_true rfl) (s35 e4) (by decide) ?_
  refine E_ps 1 (pc' := 37) (l' := [some (.ref x0), some (.ref x1), some (.ref x2)]) (st' := [.ref x2, .int z3.2, .int (z1.1.1 x2 5), .ref x1, .ref x0]) rfl ?_
  refine E_gi k2 (by decide) rfl ?_
  refine E_ps 1 (pc' := 41) (l' := [some (.ref x0), some (.ref x1), some (.ref x2)]) (st' := [.ref x0, .int (z3.1.1 x2 6), .int z3.2, .int (z1.1.1 x2 5), .ref x1, .ref x0]) rfl ?_
  obtain ⟨a5, e6, h⟩ := Option.bind_eq_some_iff.mp h
  refine E_gr k0 (by decide) rfl e6 ?_
  have kf7 : oK a5 7 = true := hk_rty k0 e6 rfl (by decide)
  refine E_gi kf7 (by decide) rfl ?_
  obtain ⟨z8, e9, h⟩ := Option.bind_eq_some_iff.mp h
  refine E_callI (vs := [.ref x0, .ref x1, .int (z1.1.1 x2 5), .int z3.2, .int (z3.1.1 x2 6), .int (z3.1.1 a5 5)]) (rest := []) rfl (by decide) rfl rfl (Nat.le_of_ble_eq_true rfl) (s37 e9) (by decide) ?_
  cases h
  exact E_ret rfl (pg_mt_md (by decide)) rfl hr

-- 39: ThreePlates$Plan.hasRound(I)Z
def dn39 (o : xH × Option Value) (r : xS × Int32) : Prop := o = (hk_of r.1, some (.int r.2))
noncomputable def f39_17 (y0 : Int32) (s : xS) : Option (xS × Int32) := ifg (y0 = 0 ∨ y0 = 1) <| some (s, y0)
set_option maxRecDepth 20000 in
theorem s39_17 {sc : Option (Nat × (Nat → Int32))} {y0 : Int32} {s : xS} {o : xH × Option Value} {r : (xS × Int32)}  (h : f39_17 y0 s = some r) (hr : dn39 o r) : Ev sc 1 39 [] 17 [none, none] [.int y0] (hk_of s) o := by
  unfold f39_17 at h
  refine E_blk rfl ?_
  obtain ⟨g1, h⟩ := ifg_some h
  cases h
  exact E_ret rfl (pg_mt_md (by decide)) (hk_retz g1 rfl) hr
noncomputable def f39_16  (s : xS) : Option (xS × Int32) := f39_17 (0 : Int32) s
set_option maxRecDepth 20000 in
theorem s39_16 {sc : Option (Nat × (Nat → Int32))}  {s : xS} {o : xH × Option Value} {r : (xS × Int32)}  (h : f39_16  s = some r) (hr : dn39 o r) : Ev sc 1 39 [] 16 [none, none] [] (hk_of s) o := by
  unfold f39_16 at h
  refine E_blk rfl ?_
  refine E_ps 1 (pc' := 17) (l' := [none, none]) (st' := [.int (0 : Int32)]) rfl ?_
  exact E_wk (l' := [none, none]) trivial (s39_17  h hr)
noncomputable def f39 (x0 : Nat) (x1 : Int32) (s : xS) : Option (xS × Int32) := ifg (oK x0 4 = true) <| if x1 < 0 then (f39_16  s) else (if (s.1 x0 1) ≤ x1 then (f39_16  s) else (f39_17 (1 : Int32) s))
set_option maxRecDepth 20000 in
theorem s39 {sc : Option (Nat × (Nat → Int32))} {x0 : Nat} {x1 : Int32} {s : xS} {r : xS × Int32} (h : f39 x0 x1 s = some r) : Cl sc 1 39 [.ref x0, .int x1] (hk_of s) (hk_of r.1, some (.int r.2)) := by
  unfold f39 at h
  obtain ⟨k0, h⟩ := ifg_some h
  refine ⟨pg_md 39, [some (.ref x0), some (.int x1)], pg_mt_md (by decide), (hk_rcv k0), rfl, ?_⟩
  generalize ho : ((hk_of r.1, some (Value.int r.2)) : xH × Option Value) = o
  have hr : dn39 o r := ho.symm
  refine E_blk rfl ?_
  refine E_ps 1 (pc' := 1) (l' := [some (.ref x0), some (.int x1)]) (st' := [.int x1]) rfl ?_
  by_cases c1 : x1 < 0
  · rw [if_pos c1] at h
    refine E_jt rfl rfl c1 ?_
    exact E_wk (l' := [none, none]) trivial (s39_16  h hr)
  · rw [if_neg c1] at h
    refine E_jf rfl rfl c1 ?_
    refine E_blk rfl ?_
    refine E_ps 2 (pc' := 6) (l' := [some (.ref x0), some (.int x1)]) (st' := [.ref x0, .int x1]) rfl ?_
    refine E_gi k0 (by decide) rfl ?_
    by_cases c2 : (s.1 x0 1) ≤ x1
    · rw [if_pos c2] at h
      refine E_jt rfl rfl c2 ?_
      exact E_wk (l' := [none, none]) trivial (s39_16  h hr)
    · rw [if_neg c2] at h
      refine E_jf rfl rfl c2 ?_
      refine E_blk rfl ?_
      refine E_ps 1 (pc' := 13) (l' := [some (.ref x0), some (.int x1)]) (st' := [.int (1 : Int32)]) rfl ?_
      refine E_j rfl rfl ?_
      exact E_wk (l' := [none, none]) trivial (s39_17  h hr)

-- 40: ThreePlates$Plan.roundAfter(I)LThreePlates$Round;
def dn40 (o : xH × Option Value) (r : xS × Nat) : Prop := o = (hk_of r.1, some (.ref r.2))
noncomputable def f40_25 (y0 : Int32) (y1 : Nat) (s : xS) : Option (xS × Nat) := (aR y1 y0).bind fun a1 => ifg (oK a1 6 = true) <| some (s, a1)
set_option maxRecDepth 20000 in
theorem s40_25 {sc : Option (Nat × (Nat → Int32))} {y0 : Int32} {y1 : Nat} {s : xS} {o : xH × Option Value} {r : (xS × Nat)}  (h : f40_25 y0 y1 s = some r) (hr : dn40 o r) : Ev sc 1 40 [] 25 [none, none] [.int y0, .ref y1] (hk_of s) o := by
  unfold f40_25 at h
  refine E_blk rfl ?_
  obtain ⟨a1, e2, h⟩ := Option.bind_eq_some_iff.mp h
  refine E_ar e2 ?_
  obtain ⟨g3, h⟩ := ifg_some h
  cases h
  exact E_ret rfl (pg_mt_md (by decide)) rfl hr
noncomputable def f40_24 (y0 : Nat) (s : xS) : Option (xS × Nat) := f40_25 (0 : Int32) y0 s
set_option maxRecDepth 20000 in
theorem s40_24 {sc : Option (Nat × (Nat → Int32))} {y0 : Nat} {s : xS} {o : xH × Option Value} {r : (xS × Nat)}  (h : f40_24 y0 s = some r) (hr : dn40 o r) : Ev sc 1 40 [] 24 [none, none] [.ref y0] (hk_of s) o := by
  unfold f40_24 at h
  refine E_blk rfl ?_
  refine E_ps 1 (pc' := 25) (l' := [none, none]) (st' := [.int (0 : Int32), .ref y0]) rfl ?_
  exact E_wk (l' := [none, none]) trivial (s40_25  h hr)
noncomputable def f40 (x0 : Nat) (x1 : Int32) (s : xS) : Option (xS × Nat) := ifg (oK x0 4 = true) <| (hk_R x0 0).bind fun a1 => if (s.1 x0 1) ≤ 0 then (f40_24 a1 s) else (if x1 < 0 then (f40_24 a1 s) else (ifg (¬ (s.1 x0 1) = 0) <| f40_25 (irm x1 (s.1 x0 1)) a1 s))
set_option maxRecDepth 20000 in
theorem s40 {sc : Option (Nat × (Nat → Int32))} {x0 : Nat} {x1 : Int32} {s : xS} {r : xS × Nat} (h : f40 x0 x1 s = some r) : Cl sc 1 40 [.ref x0, .int x1] (hk_of s) (hk_of r.1, some (.ref r.2)) := by
  unfold f40 at h
  obtain ⟨k0, h⟩ := ifg_some h
  refine ⟨pg_md 40, [some (.ref x0), some (.int x1)], pg_mt_md (by decide), (hk_rcv k0), rfl, ?_⟩
  generalize ho : ((hk_of r.1, some (Value.ref r.2)) : xH × Option Value) = o
  have hr : dn40 o r := ho.symm
  refine E_blk rfl ?_
  refine E_ps 1 (pc' := 1) (l' := [some (.ref x0), some (.int x1)]) (st' := [.ref x0]) rfl ?_
  obtain ⟨a1, e2, h⟩ := Option.bind_eq_some_iff.mp h
  refine E_gr k0 (by decide) rfl e2 ?_
  refine E_ps 1 (pc' := 5) (l' := [some (.ref x0), some (.int x1)]) (st' := [.ref x0, .ref a1]) rfl ?_
  refine E_gi k0 (by decide) rfl ?_
  by_cases c3 : (s.1 x0 1) ≤ 0
  · rw [if_pos c3] at h
    refine E_jt rfl rfl c3 ?_
    exact E_wk (l' := [none, none]) trivial (s40_24  h hr)
  · rw [if_neg c3] at h
    refine E_jf rfl rfl c3 ?_
    refine E_blk rfl ?_
    refine E_ps 1 (pc' := 12) (l' := [some (.ref x0), some (.int x1)]) (st' := [.int x1, .ref a1]) rfl ?_
    by_cases c4 : x1 < 0
    · rw [if_pos c4] at h
      refine E_jt rfl rfl c4 ?_
      exact E_wk (l' := [none, none]) trivial (s40_24  h hr)
    · rw [if_neg c4] at h
      refine E_jf rfl rfl c4 ?_
      refine E_blk rfl ?_
      refine E_ps 2 (pc' := 17) (l' := [some (.ref x0), some (.int x1)]) (st' := [.ref x0, .int x1, .ref a1]) rfl ?_
      refine E_gi k0 (by decide) rfl ?_
      obtain ⟨g5, h⟩ := ifg_some h
      refine E_irem g5 ?_
      refine E_j rfl rfl ?_
      exact E_wk (l' := [none, none]) trivial (s40_25  h hr)

-- 60: ThreePlates$Round.become(LThreePlates$Round;)V
def dn60 (o : xH × Option Value) (r : xS × Unit) : Prop := o = (hk_of r.1, none)
noncomputable def f60 (x0 : Nat) (x1 : Nat) (s : xS) : Option (xS × Unit) := ifg (oK x0 6 = true) <| ifg (oK x1 6 = true) <| (pI s x0 0 (s.1 x1 0)).bind fun t1 => (pI t1 x0 1 (t1.1 x1 1)).bind fun t3 => (pI t3 x0 2 (t3.1 x1 2)).bind fun t5 => (pI t5 x0 3 (t5.1 x1 3)).bind fun t7 => (pI t7 x0 4 (t7.1 x1 4)).bind fun t9 => (pI t9 x0 5 (t9.1 x1 5)).bind fun t11 => (pI t11 x0 6 (t11.1 x1 6)).bind fun t13 => some (t13, ())
set_option maxRecDepth 20000 in
theorem s60 {sc : Option (Nat × (Nat → Int32))} {x0 : Nat} {x1 : Nat} {s : xS} {r : xS × Unit} (h : f60 x0 x1 s = some r) : Cl sc 1 60 [.ref x0, .ref x1] (hk_of s) (hk_of r.1, none) := by
  unfold f60 at h
  obtain ⟨k0, h⟩ := ifg_some h
  obtain ⟨k1, h⟩ := ifg_some h
  refine ⟨pg_md 60, [some (.ref x0), some (.ref x1)], pg_mt_md (by decide), (hk_rcv k0), rfl, ?_⟩
  generalize ho : ((hk_of r.1, none) : xH × Option Value) = o
  have hr : dn60 o r := ho.symm
  refine E_blk rfl ?_
  refine E_ps 2 (pc' := 2) (l' := [some (.ref x0), some (.ref x1)]) (st' := [.ref x1, .ref x0]) rfl ?_
  refine E_gi k1 (by decide) rfl ?_
  obtain ⟨t1, e2, h⟩ := Option.bind_eq_some_iff.mp h
  refine E_pi k0 (by decide) rfl e2 ?_
  refine E_ps 2 (pc' := 10) (l' := [some (.ref x0), some (.ref x1)]) (st' := [.ref x1, .ref x0]) rfl ?_
  refine E_gi k1 (by decide) rfl ?_
  obtain ⟨t3, e4, h⟩ := Option.bind_eq_some_iff.mp h
  refine E_pi k0 (by decide) rfl e4 ?_
  refine E_ps 2 (pc' := 18) (l' := [some (.ref x0), some (.ref x1)]) (st' := [.ref x1, .ref x0]) rfl ?_
  refine E_gi k1 (by decide) rfl ?_
  obtain ⟨t5, e6, h⟩ := Option.bind_eq_some_iff.mp h
  refine E_pi k0 (by decide) rfl e6 ?_
  refine E_ps 2 (pc' := 26) (l' := [some (.ref x0), some (.ref x1)]) (st' := [.ref x1, .ref x0]) rfl ?_
  refine E_gi k1 (by decide) rfl ?_
  obtain ⟨t7, e8, h⟩ := Option.bind_eq_some_iff.mp h
  refine E_pi k0 (by decide) rfl e8 ?_
  refine E_ps 2 (pc' := 34) (l' := [some (.ref x0), some (.ref x1)]) (st' := [.ref x1, .ref x0]) rfl ?_
  refine E_gi k1 (by decide) rfl ?_
  obtain ⟨t9, e10, h⟩ := Option.bind_eq_some_iff.mp h
  refine E_pi k0 (by decide) rfl e10 ?_
  refine E_ps 2 (pc' := 42) (l' := [some (.ref x0), some (.ref x1)]) (st' := [.ref x1, .ref x0]) rfl ?_
  refine E_gi k1 (by decide) rfl ?_
  obtain ⟨t11, e12, h⟩ := Option.bind_eq_some_iff.mp h
  refine E_pi k0 (by decide) rfl e12 ?_
  refine E_ps 2 (pc' := 50) (l' := [some (.ref x0), some (.ref x1)]) (st' := [.ref x1, .ref x0]) rfl ?_
  refine E_gi k1 (by decide) rfl ?_
  obtain ⟨t13, e14, h⟩ := Option.bind_eq_some_iff.mp h
  refine E_pi k0 (by decide) rfl e14 ?_
  cases h
  exact E_ret rfl (pg_mt_md (by decide)) rfl hr

-- 41: ThreePlates$Plan.become(LThreePlates$Plan;)V
def dn41 (o : xH × Option Value) (r : xS × Unit) : Prop := o = (hk_of r.1, none)
def dn41_2 (sc : Option (Nat × (Nat → Int32))) (x0 : Nat) (x1 : Nat) (o : xH × Option Value) (r : ((Int32 × xS) ⊕ (xS × Unit))) : Prop := match r with
  | .inl q => Ev sc 2 41 [] 2 [some (.ref x0), some (.ref x1), some (.int q.1)] [] (hk_of q.2) o
  | .inr r => dn41 o r
noncomputable def f41_2 (x0 : Nat) (x1 : Nat) (x2 : Int32) (s : xS) : Option ((Int32 × xS) ⊕ (xS × Unit)) := if (s.1 x1 1) ≤ x2 then (Option.map Sum.inr ((pI s x0 1 (s.1 x1 1)).bind fun t2 => some (t2, ()))) else ((hk_R x0 0).bind fun a4 => (aR a4 x2).bind fun a6 => ifg (oK a6 6 = true) <| (hk_R x1 0).bind fun a9 => (aR a9 x2).bind fun a11 => ifg (oK a11 6 = true) <| (f60 a6 a11 s).bind fun z14 => some (Sum.inl ((x2 + (1 : Int32)), z14.1)))
set_option maxRecDepth 20000 in
theorem s41_2 {sc : Option (Nat × (Nat → Int32))} {x0 : Nat} {x1 : Nat} {x2 : Int32} {s : xS} {o : xH × Option Value} {r : ((Int32 × xS) ⊕ (xS × Unit))} (k0 : oK x0 4 = true) (k1 : oK x1 4 = true) (h : f41_2 x0 x1 x2 s = some r) (hr : dn41_2 sc x0 x1 o r) : Ev sc 2 41 [] 2 [some (.ref x0), some (.ref x1), some (.int x2)] [] (hk_of s) o := by
  unfold f41_2 at h
  refine E_blk rfl ?_
  refine E_ps 2 (pc' := 4) (l' := [some (.ref x0), some (.ref x1), some (.int x2)]) (st' := [.ref x1, .int x2]) rfl ?_
  refine E_gi k1 (by decide) rfl ?_
  by_cases c1 : (s.1 x1 1) ≤ x2
  · rw [if_pos c1] at h
    refine E_jt rfl rfl c1 ?_
    obtain ⟨r, h, hr⟩ := lf_some (Dn := dn41_2 sc x0 x1 o) h hr
    refine E_blk rfl ?_
    refine E_ps 2 (pc' := 33) (l' := [some (.ref x0), some (.ref x1), some (.int x2)]) (st' := [.ref x1, .ref x0]) rfl ?_
    refine E_gi k1 (by decide) rfl ?_
    obtain ⟨t2, e3, h⟩ := Option.bind_eq_some_iff.mp h
    refine E_pi k0 (by decide) rfl e3 ?_
    cases h
    exact E_ret rfl (pg_mt_md (by decide)) rfl hr
  · rw [if_neg c1] at h
    refine E_jf rfl rfl c1 ?_
    refine E_blk rfl ?_
    refine E_ps 1 (pc' := 11) (l' := [some (.ref x0), some (.ref x1), some (.int x2)]) (st' := [.ref x0]) rfl ?_
    obtain ⟨a4, e5, h⟩ := Option.bind_eq_some_iff.mp h
    refine E_gr k0 (by decide) rfl e5 ?_
    refine E_ps 1 (pc' := 15) (l' := [some (.ref x0), some (.ref x1), some (.int x2)]) (st' := [.int x2, .ref a4]) rfl ?_
    obtain ⟨a6, e7, h⟩ := Option.bind_eq_some_iff.mp h
    refine E_ar e7 ?_
    obtain ⟨g8, h⟩ := ifg_some h
    refine E_ps 1 (pc' := 17) (l' := [some (.ref x0), some (.ref x1), some (.int x2)]) (st' := [.ref x1, .ref a6]) rfl ?_
    obtain ⟨a9, e10, h⟩ := Option.bind_eq_some_iff.mp h
    refine E_gr k1 (by decide) rfl e10 ?_
    refine E_ps 1 (pc' := 21) (l' := [some (.ref x0), some (.ref x1), some (.int x2)]) (st' := [.int x2, .ref a9, .ref a6]) rfl ?_
    obtain ⟨a11, e12, h⟩ := Option.bind_eq_some_iff.mp h
    refine E_ar e12 ?_
    obtain ⟨g13, h⟩ := ifg_some h
    obtain ⟨z14, e15, h⟩ := Option.bind_eq_some_iff.mp h
    refine E_callV (vs := [.ref a6, .ref a11]) (rest := []) rfl (by decide) rfl rfl (Nat.le_of_ble_eq_true rfl) (s60 e15) (by decide) ?_
    refine E_ps 1 (pc' := 28) (l' := [some (.ref x0), some (.ref x1), some (.int (x2 + (1 : Int32)))]) (st' := []) rfl ?_
    refine E_j rfl rfl ?_
    cases h
    exact E_wk (l' := [some (.ref x0), some (.ref x1), some (.int (x2 + (1 : Int32)))]) ⟨rfl, rfl, rfl, trivial⟩ hr
theorem s41_2_w {sc : Option (Nat × (Nat → Int32))} {x0 : Nat} {x1 : Nat} {x2 : Int32} {s : xS} {o : xH × Option Value} {r : (xS × Unit)} (k0 : oK x0 4 = true) (k1 : oK x1 4 = true) (h : whl (fun q : (Int32 × xS) => f41_2 x0 x1 q.1 q.2) (x2, s) = some r) (hr : dn41 o r) : Ev sc 2 41 [] 2 [some (.ref x0), some (.ref x1), some (.int x2)] [] (hk_of s) o := by
  refine whl_snd (E := fun q : (Int32 × xS) => Ev sc 2 41 [] 2 [some (.ref x0), some (.ref x1), some (.int q.1)] [] (hk_of q.2) o) (P := fun r => dn41 o r) (fun q r h hr => ?_) h hr
  exact s41_2 k0 k1 h (by cases r <;> exact hr)
noncomputable def f41 (x0 : Nat) (x1 : Nat) (s : xS) : Option (xS × Unit) := ifg (oK x0 4 = true) <| ifg (oK x1 4 = true) <| whl (fun q : (Int32 × xS) => f41_2 x0 x1 q.1 q.2) ((0 : Int32), s)
set_option maxRecDepth 20000 in
theorem s41 {sc : Option (Nat × (Nat → Int32))} {x0 : Nat} {x1 : Nat} {s : xS} {r : xS × Unit} (h : f41 x0 x1 s = some r) : Cl sc 2 41 [.ref x0, .ref x1] (hk_of s) (hk_of r.1, none) := by
  unfold f41 at h
  obtain ⟨k0, h⟩ := ifg_some h
  obtain ⟨k1, h⟩ := ifg_some h
  refine ⟨pg_md 41, [some (.ref x0), some (.ref x1), none], pg_mt_md (by decide), (hk_rcv k0), rfl, ?_⟩
  generalize ho : ((hk_of r.1, none) : xH × Option Value) = o
  have hr : dn41 o r := ho.symm
  refine E_blk rfl ?_
  refine E_ps 2 (pc' := 2) (l' := [some (.ref x0), some (.ref x1), some (.int (0 : Int32))]) (st' := []) rfl ?_
  exact E_wk (l' := [some (.ref x0), some (.ref x1), some (.int (0 : Int32))]) ⟨rfl, rfl, rfl, trivial⟩ (s41_2_w k0 k1 h hr)

-- 70: ThreePlates$Shop.findName(J)I
def dn70 (o : xH × Option Value) (r : xS × Int32) : Prop := o = (hk_of r.1, some (.int r.2))
def dn70_2 (sc : Option (Nat × (Nat → Int32))) (x0 : Nat) (x1 : Int64) (o : xH × Option Value) (r : ((Int32 × xS) ⊕ (xS × Int32))) : Prop := match r with
  | .inl q => Ev sc 1 70 [] 2 [some (.ref x0), some (.long x1), none, some (.int q.1)] [] (hk_of q.2) o
  | .inr r => dn70 o r
noncomputable def f70_2 (x0 : Nat) (x1 : Int64) (x3 : Int32) (s : xS) : Option ((Int32 × xS) ⊕ (xS × Int32)) := if (s.1 x0 2) ≤ x3 then (Option.map Sum.inr (some (s, (-1 : Int32)))) else ((hk_R x0 0).bind fun a2 => (aL s a2 x3).bind fun v4 => if (lg_cmp v4 x1) = 0 then (Option.map Sum.inr (some (s, x3))) else (some (Sum.inl ((x3 + (1 : Int32)), s))))
set_option maxRecDepth 20000 in
theorem s70_2 {sc : Option (Nat × (Nat → Int32))} {x0 : Nat} {x1 : Int64} {x3 : Int32} {s : xS} {o : xH × Option Value} {r : ((Int32 × xS) ⊕ (xS × Int32))} (k0 : oK x0 7 = true) (h : f70_2 x0 x1 x3 s = some r) (hr : dn70_2 sc x0 x1 o r) : Ev sc 1 70 [] 2 [some (.ref x0), some (.long x1), none, some (.int x3)] [] (hk_of s) o := by
  unfold f70_2 at h
  refine E_blk rfl ?_
  refine E_ps 2 (pc' := 4) (l' := [some (.ref x0), some (.long x1), none, some (.int x3)]) (st' := [.ref x0, .int x3]) rfl ?_
  refine E_gi k0 (by decide) rfl ?_
  by_cases c1 : (s.1 x0 2) ≤ x3
  · rw [if_pos c1] at h
    refine E_jt rfl rfl c1 ?_
    obtain ⟨r, h, hr⟩ := lf_some (Dn := dn70_2 sc x0 x1 o) h hr
    refine E_blk rfl ?_
    refine E_ps 1 (pc' := 30) (l' := [some (.ref x0), some (.long x1), none, some (.int x3)]) (st' := [.int (-1 : Int32)]) rfl ?_
    cases h
    exact E_ret rfl (pg_mt_md (by decide)) rfl hr
  · rw [if_neg c1] at h
    refine E_jf rfl rfl c1 ?_
    refine E_blk rfl ?_
    refine E_ps 1 (pc' := 11) (l' := [some (.ref x0), some (.long x1), none, some (.int x3)]) (st' := [.ref x0]) rfl ?_
    obtain ⟨a2, e3, h⟩ := Option.bind_eq_some_iff.mp h
    refine E_gr k0 (by decide) rfl e3 ?_
    refine E_ps 1 (pc' := 15) (l' := [some (.ref x0), some (.long x1), none, some (.int x3)]) (st' := [.int x3, .ref a2]) rfl ?_
    obtain ⟨v4, e5, h⟩ := Option.bind_eq_some_iff.mp h
    refine E_al e5 ?_
    refine E_ps 2 (pc' := 18) (l' := [some (.ref x0), some (.long x1), none, some (.int x3)]) (st' := [.int (lg_cmp v4 x1)]) rfl ?_
    by_cases c6 : (lg_cmp v4 x1) = 0
    · rw [if_pos c6] at h
      refine E_jt rfl rfl c6 ?_
      obtain ⟨r, h, hr⟩ := lf_some (Dn := dn70_2 sc x0 x1 o) h hr
      refine E_blk rfl ?_
      refine E_ps 1 (pc' := 22) (l' := [some (.ref x0), some (.long x1), none, some (.int x3)]) (st' := [.int x3]) rfl ?_
      cases h
      exact E_ret rfl (pg_mt_md (by decide)) rfl hr
    · rw [if_neg c6] at h
      refine E_jf rfl rfl c6 ?_
      refine E_blk rfl ?_
      refine E_ps 1 (pc' := 26) (l' := [some (.ref x0), some (.long x1), none, some (.int (x3 + (1 : Int32)))]) (st' := []) rfl ?_
      refine E_j rfl rfl ?_
      cases h
      exact E_wk (l' := [some (.ref x0), some (.long x1), none, some (.int (x3 + (1 : Int32)))]) ⟨rfl, rfl, rfl, trivial⟩ hr
theorem s70_2_w {sc : Option (Nat × (Nat → Int32))} {x0 : Nat} {x1 : Int64} {x3 : Int32} {s : xS} {o : xH × Option Value} {r : (xS × Int32)} (k0 : oK x0 7 = true) (h : whl (fun q : (Int32 × xS) => f70_2 x0 x1 q.1 q.2) (x3, s) = some r) (hr : dn70 o r) : Ev sc 1 70 [] 2 [some (.ref x0), some (.long x1), none, some (.int x3)] [] (hk_of s) o := by
  refine whl_snd (E := fun q : (Int32 × xS) => Ev sc 1 70 [] 2 [some (.ref x0), some (.long x1), none, some (.int q.1)] [] (hk_of q.2) o) (P := fun r => dn70 o r) (fun q r h hr => ?_) h hr
  exact s70_2 k0 h (by cases r <;> exact hr)
noncomputable def f70 (x0 : Nat) (x1 : Int64) (s : xS) : Option (xS × Int32) := ifg (oK x0 7 = true) <| whl (fun q : (Int32 × xS) => f70_2 x0 x1 q.1 q.2) ((0 : Int32), s)
set_option maxRecDepth 20000 in
theorem s70 {sc : Option (Nat × (Nat → Int32))} {x0 : Nat} {x1 : Int64} {s : xS} {r : xS × Int32} (h : f70 x0 x1 s = some r) : Cl sc 1 70 [.ref x0, .long x1] (hk_of s) (hk_of r.1, some (.int r.2)) := by
  unfold f70 at h
  obtain ⟨k0, h⟩ := ifg_some h
  refine ⟨pg_md 70, [some (.ref x0), some (.long x1), none, none], pg_mt_md (by decide), (hk_rcv k0), rfl, ?_⟩
  generalize ho : ((hk_of r.1, some (Value.int r.2)) : xH × Option Value) = o
  have hr : dn70 o r := ho.symm
  refine E_blk rfl ?_
  refine E_ps 2 (pc' := 2) (l' := [some (.ref x0), some (.long x1), none, some (.int (0 : Int32))]) (st' := []) rfl ?_
  exact E_wk (l' := [some (.ref x0), some (.long x1), none, some (.int (0 : Int32))]) ⟨rfl, rfl, rfl, trivial⟩ (s70_2_w k0 h hr)

-- 79: ThreePlates$Tape.fail(II)Z
def dn79 (o : xH × Option Value) (r : xS × Int32) : Prop := o = (hk_of r.1, some (.int r.2))
noncomputable def f79 (x0 : Nat) (x1 : Int32) (x2 : Int32) (s : xS) : Option (xS × Int32) := ifg (oK x0 8 = true) <| (pI s x0 2 x1).bind fun t1 => (pI t1 x0 3 x2).bind fun t3 => some (t3, (0 : Int32))
set_option maxRecDepth 20000 in
theorem s79 {sc : Option (Nat × (Nat → Int32))} {x0 : Nat} {x1 : Int32} {x2 : Int32} {s : xS} {r : xS × Int32} (h : f79 x0 x1 x2 s = some r) : Cl sc 1 79 [.ref x0, .int x1, .int x2] (hk_of s) (hk_of r.1, some (.int r.2)) := by
  unfold f79 at h
  obtain ⟨k0, h⟩ := ifg_some h
  refine ⟨pg_md 79, [some (.ref x0), some (.int x1), some (.int x2)], pg_mt_md (by decide), (hk_rcv k0), rfl, ?_⟩
  generalize ho : ((hk_of r.1, some (Value.int r.2)) : xH × Option Value) = o
  have hr : dn79 o r := ho.symm
  refine E_blk rfl ?_
  refine E_ps 2 (pc' := 2) (l' := [some (.ref x0), some (.int x1), some (.int x2)]) (st' := [.int x1, .ref x0]) rfl ?_
  obtain ⟨t1, e2, h⟩ := Option.bind_eq_some_iff.mp h
  refine E_pi k0 (by decide) rfl e2 ?_
  refine E_ps 2 (pc' := 7) (l' := [some (.ref x0), some (.int x1), some (.int x2)]) (st' := [.int x2, .ref x0]) rfl ?_
  obtain ⟨t3, e4, h⟩ := Option.bind_eq_some_iff.mp h
  refine E_pi k0 (by decide) rfl e4 ?_
  refine E_ps 1 (pc' := 11) (l' := [some (.ref x0), some (.int x1), some (.int x2)]) (st' := [.int (0 : Int32)]) rfl ?_
  cases h
  exact E_ret rfl (pg_mt_md (by decide)) rfl hr

-- 80: ThreePlates$Tape.refuse()Z
def dn80 (o : xH × Option Value) (r : xS × Int32) : Prop := o = (hk_of r.1, some (.int r.2))
noncomputable def f80_14 (x0 : Nat) (y0 : Int32) (y1 : Nat) (s : xS) : Option (xS × Int32) := (f79 y1 y0 (s.1 x0 6) s).bind fun z1 => ifg (z1.2 = 0 ∨ z1.2 = 1) <| some (z1.1, z1.2)
set_option maxRecDepth 20000 in
theorem s80_14 {sc : Option (Nat × (Nat → Int32))} {x0 : Nat} {y0 : Int32} {y1 : Nat} {s : xS} {o : xH × Option Value} {r : (xS × Int32)} (k0 : oK x0 8 = true) (ky1 : oK y1 8 = true) (h : f80_14 x0 y0 y1 s = some r) (hr : dn80 o r) : Ev sc 2 80 [] 14 [some (.ref x0)] [.int y0, .ref y1] (hk_of s) o := by
  unfold f80_14 at h
  refine E_blk rfl ?_
  refine E_ps 1 (pc' := 15) (l' := [some (.ref x0)]) (st' := [.ref x0, .int y0, .ref y1]) rfl ?_
  refine E_gi k0 (by decide) rfl ?_
  obtain ⟨z1, e2, h⟩ := Option.bind_eq_some_iff.mp h
  refine E_callI (vs := [.ref y1, .int y0, .int (s.1 x0 6)]) (rest := []) rfl (by decide) rfl rfl (Nat.le_of_ble_eq_true rfl) (s79 e2) (by decide) ?_
  obtain ⟨g3, h⟩ := ifg_some h
  cases h
  exact E_ret rfl (pg_mt_md (by decide)) (hk_retz g3 rfl) hr
noncomputable def f80 (x0 : Nat) (s : xS) : Option (xS × Int32) := ifg (oK x0 8 = true) <| if (s.1 x0 5) = (5 : Int32) then (f80_14 x0 (1 : Int32) x0 s) else (f80_14 x0 (2 : Int32) x0 s)
set_option maxRecDepth 20000 in
theorem s80 {sc : Option (Nat × (Nat → Int32))} {x0 : Nat} {s : xS} {r : xS × Int32} (h : f80 x0 s = some r) : Cl sc 2 80 [.ref x0] (hk_of s) (hk_of r.1, some (.int r.2)) := by
  unfold f80 at h
  obtain ⟨k0, h⟩ := ifg_some h
  refine ⟨pg_md 80, [some (.ref x0)], pg_mt_md (by decide), (hk_rcv k0), rfl, ?_⟩
  generalize ho : ((hk_of r.1, some (Value.int r.2)) : xH × Option Value) = o
  have hr : dn80 o r := ho.symm
  refine E_blk rfl ?_
  refine E_ps 2 (pc' := 2) (l' := [some (.ref x0)]) (st' := [.ref x0, .ref x0]) rfl ?_
  refine E_gi k0 (by decide) rfl ?_
  refine E_ps 1 (pc' := 6) (l' := [some (.ref x0)]) (st' := [.int (5 : Int32), .int (s.1 x0 5), .ref x0]) rfl ?_
  by_cases c1 : (s.1 x0 5) = (5 : Int32)
  · rw [if_pos c1] at h
    refine E_jt rfl rfl c1 ?_
    refine E_blk rfl ?_
    refine E_ps 1 (pc' := 10) (l' := [some (.ref x0)]) (st' := [.int (1 : Int32), .ref x0]) rfl ?_
    refine E_j rfl rfl ?_
    exact E_wk (l' := [some (.ref x0)]) ⟨rfl, trivial⟩ (s80_14 k0 k0 h hr)
  · rw [if_neg c1] at h
    refine E_jf rfl rfl c1 ?_
    refine E_blk rfl ?_
    refine E_ps 1 (pc' := 14) (l' := [some (.ref x0)]) (st' := [.int (2 : Int32), .ref x0]) rfl ?_
    exact E_wk (l' := [some (.ref x0)]) ⟨rfl, trivial⟩ (s80_14 k0 k0 h hr)

-- 82: ThreePlates$Tape.isWord(J)Z
def dn82 (o : xH × Option Value) (r : xS × Int32) : Prop := o = (hk_of r.1, some (.int r.2))
noncomputable def f82_22 (y0 : Int32) (s : xS) : Option (xS × Int32) := ifg (y0 = 0 ∨ y0 = 1) <| some (s, y0)
set_option maxRecDepth 20000 in
theorem s82_22 {sc : Option (Nat × (Nat → Int32))} {y0 : Int32} {s : xS} {o : xH × Option Value} {r : (xS × Int32)}  (h : f82_22 y0 s = some r) (hr : dn82 o r) : Ev sc 1 82 [] 22 [none, none, none] [.int y0] (hk_of s) o := by
  unfold f82_22 at h
  refine E_blk rfl ?_
  obtain ⟨g1, h⟩ := ifg_some h
  cases h
  exact E_ret rfl (pg_mt_md (by decide)) (hk_retz g1 rfl) hr
noncomputable def f82_21  (s : xS) : Option (xS × Int32) := f82_22 (0 : Int32) s
set_option maxRecDepth 20000 in
theorem s82_21 {sc : Option (Nat × (Nat → Int32))}  {s : xS} {o : xH × Option Value} {r : (xS × Int32)}  (h : f82_21  s = some r) (hr : dn82 o r) : Ev sc 1 82 [] 21 [none, none, none] [] (hk_of s) o := by
  unfold f82_21 at h
  refine E_blk rfl ?_
  refine E_ps 1 (pc' := 22) (l' := [none, none, none]) (st' := [.int (0 : Int32)]) rfl ?_
  exact E_wk (l' := [none, none, none]) trivial (s82_22  h hr)
noncomputable def f82 (x0 : Nat) (x1 : Int64) (s : xS) : Option (xS × Int32) := ifg (oK x0 8 = true) <| if (s.1 x0 5) = (1 : Int32) then (if (lg_cmp (s.2 x0 7) x1) = 0 then (f82_22 (1 : Int32) s) else (f82_21  s)) else (f82_21  s)
set_option maxRecDepth 20000 in
theorem s82 {sc : Option (Nat × (Nat → Int32))} {x0 : Nat} {x1 : Int64} {s : xS} {r : xS × Int32} (h : f82 x0 x1 s = some r) : Cl sc 1 82 [.ref x0, .long x1] (hk_of s) (hk_of r.1, some (.int r.2)) := by
  unfold f82 at h
  obtain ⟨k0, h⟩ := ifg_some h
  refine ⟨pg_md 82, [some (.ref x0), some (.long x1), none], pg_mt_md (by decide), (hk_rcv k0), rfl, ?_⟩
  generalize ho : ((hk_of r.1, some (Value.int r.2)) : xH × Option Value) = o
  have hr : dn82 o r := ho.symm
  refine E_blk rfl ?_
  refine E_ps 1 (pc' := 1) (l' := [some (.ref x0), some (.long x1), none]) (st' := [.ref x0]) rfl ?_
  refine E_gi k0 (by decide) rfl ?_
  refine E_ps 1 (pc' := 5) (l' := [some (.ref x0), some (.long x1), none]) (st' := [.int (1 : Int32), .int (s.1 x0 5)]) rfl ?_
  by_cases c1 : (s.1 x0 5) = (1 : Int32)
  · rw [if_pos c1] at h
    refine E_jt rfl rfl c1 ?_
    refine E_blk rfl ?_
    refine E_ps 1 (pc' := 9) (l' := [some (.ref x0), some (.long x1), none]) (st' := [.ref x0]) rfl ?_
    refine E_gl k0 (by decide) rfl ?_
    refine E_ps 2 (pc' := 14) (l' := [some (.ref x0), some (.long x1), none]) (st' := [.int (lg_cmp (s.2 x0 7) x1)]) rfl ?_
    by_cases c2 : (lg_cmp (s.2 x0 7) x1) = 0
    · rw [if_pos c2] at h
      refine E_jt rfl rfl c2 ?_
      refine E_blk rfl ?_
      refine E_ps 1 (pc' := 18) (l' := [some (.ref x0), some (.long x1), none]) (st' := [.int (1 : Int32)]) rfl ?_
      refine E_j rfl rfl ?_
      exact E_wk (l' := [none, none, none]) trivial (s82_22  h hr)
    · rw [if_neg c2] at h
      refine E_jf rfl rfl c2 ?_
      exact E_wk (l' := [none, none, none]) trivial (s82_21  h hr)
  · rw [if_neg c1] at h
    refine E_jf rfl rfl c1 ?_
    exact E_wk (l' := [none, none, none]) trivial (s82_21  h hr)

-- 92: ThreePlates$Tape.isLetter(I)Z
def dn92 (o : xH × Option Value) (r : xS × Int32) : Prop := o = (hk_of r.1, some (.int r.2))
noncomputable def f92_17 (y0 : Int32) (s : xS) : Option (xS × Int32) := ifg (y0 = 0 ∨ y0 = 1) <| some (s, y0)
set_option maxRecDepth 20000 in
theorem s92_17 {sc : Option (Nat × (Nat → Int32))} {y0 : Int32} {s : xS} {o : xH × Option Value} {r : (xS × Int32)}  (h : f92_17 y0 s = some r) (hr : dn92 o r) : Ev sc 1 92 [] 17 [none] [.int y0] (hk_of s) o := by
  unfold f92_17 at h
  refine E_blk rfl ?_
  obtain ⟨g1, h⟩ := ifg_some h
  cases h
  exact E_ret rfl (pg_mt_md (by decide)) (hk_retz g1 rfl) hr
noncomputable def f92_16  (s : xS) : Option (xS × Int32) := f92_17 (0 : Int32) s
set_option maxRecDepth 20000 in
theorem s92_16 {sc : Option (Nat × (Nat → Int32))}  {s : xS} {o : xH × Option Value} {r : (xS × Int32)}  (h : f92_16  s = some r) (hr : dn92 o r) : Ev sc 1 92 [] 16 [none] [] (hk_of s) o := by
  unfold f92_16 at h
  refine E_blk rfl ?_
  refine E_ps 1 (pc' := 17) (l' := [none]) (st' := [.int (0 : Int32)]) rfl ?_
  exact E_wk (l' := [none]) trivial (s92_17  h hr)
noncomputable def f92 (x0 : Int32) (s : xS) : Option (xS × Int32) :=  if x0 < (97 : Int32) then (f92_16  s) else (if (122 : Int32) < x0 then (f92_16  s) else (f92_17 (1 : Int32) s))
set_option maxRecDepth 20000 in
theorem s92 {sc : Option (Nat × (Nat → Int32))} {x0 : Int32} {s : xS} {r : xS × Int32} (h : f92 x0 s = some r) : Cl sc 1 92 [.int x0] (hk_of s) (hk_of r.1, some (.int r.2)) := by
  unfold f92 at h
  refine ⟨pg_md 92, [some (.int x0)], pg_mt_md (by decide), rfl, rfl, ?_⟩
  generalize ho : ((hk_of r.1, some (Value.int r.2)) : xH × Option Value) = o
  have hr : dn92 o r := ho.symm
  refine E_blk rfl ?_
  refine E_ps 2 (pc' := 3) (l' := [some (.int x0)]) (st' := [.int (97 : Int32), .int x0]) rfl ?_
  by_cases c1 : x0 < (97 : Int32)
  · rw [if_pos c1] at h
    refine E_jt rfl rfl c1 ?_
    exact E_wk (l' := [none]) trivial (s92_16  h hr)
  · rw [if_neg c1] at h
    refine E_jf rfl rfl c1 ?_
    refine E_blk rfl ?_
    refine E_ps 2 (pc' := 9) (l' := [some (.int x0)]) (st' := [.int (122 : Int32), .int x0]) rfl ?_
    by_cases c2 : (122 : Int32) < x0
    · rw [if_pos c2] at h
      refine E_jt rfl rfl c2 ?_
      exact E_wk (l' := [none]) trivial (s92_16  h hr)
    · rw [if_neg c2] at h
      refine E_jf rfl rfl c2 ?_
      refine E_blk rfl ?_
      refine E_ps 1 (pc' := 13) (l' := [some (.int x0)]) (st' := [.int (1 : Int32)]) rfl ?_
      refine E_j rfl rfl ?_
      exact E_wk (l' := [none]) trivial (s92_17  h hr)

-- 88: ThreePlates$Tape.stepWord()V
def dn88 (o : xH × Option Value) (r : xS × Unit) : Prop := o = (hk_of r.1, none)
def dn88_5 (sc : Option (Nat × (Nat → Int32))) (x0 : Nat) (o : xH × Option Value) (r : ((xS) ⊕ (xS × Unit))) : Prop := match r with
  | .inl q => Ev sc 2 88 [] 5 [some (.ref x0)] [] (hk_of q) o
  | .inr r => dn88 o r
noncomputable def f88_86 (y0 : Int32) (y1 : Nat) (s : xS) : Option (xS × Unit) := (pI s y1 5 y0).bind fun t1 => some (t1, ())
set_option maxRecDepth 20000 in
theorem s88_86 {sc : Option (Nat × (Nat → Int32))} {y0 : Int32} {y1 : Nat} {s : xS} {o : xH × Option Value} {r : (xS × Unit)} (ky1 : oK y1 8 = true) (h : f88_86 y0 y1 s = some r) (hr : dn88 o r) : Ev sc 2 88 [] 86 [none] [.int y0, .ref y1] (hk_of s) o := by
  unfold f88_86 at h
  refine E_blk rfl ?_
  obtain ⟨t1, e2, h⟩ := Option.bind_eq_some_iff.mp h
  refine E_pi ky1 (by decide) rfl e2 ?_
  cases h
  exact E_ret rfl (pg_mt_md (by decide)) rfl hr
noncomputable def f88_66 (x0 : Nat) (s : xS) : Option (xS × Unit) := if ((s.1 x0 4) - (s.1 x0 6)) ≤ (8 : Int32) then (f88_86 (1 : Int32) x0 s) else (f88_86 (5 : Int32) x0 s)
set_option maxRecDepth 20000 in
theorem s88_66 {sc : Option (Nat × (Nat → Int32))} {x0 : Nat} {s : xS} {o : xH × Option Value} {r : (xS × Unit)} (k0 : oK x0 8 = true) (h : f88_66 x0 s = some r) (hr : dn88 o r) : Ev sc 2 88 [] 66 [some (.ref x0)] [] (hk_of s) o := by
  unfold f88_66 at h
  refine E_blk rfl ?_
  refine E_ps 2 (pc' := 68) (l' := [some (.ref x0)]) (st' := [.ref x0, .ref x0]) rfl ?_
  refine E_gi k0 (by decide) rfl ?_
  refine E_ps 1 (pc' := 72) (l' := [some (.ref x0)]) (st' := [.ref x0, .int (s.1 x0 4), .ref x0]) rfl ?_
  refine E_gi k0 (by decide) rfl ?_
  refine E_ps 2 (pc' := 78) (l' := [some (.ref x0)]) (st' := [.int (8 : Int32), .int ((s.1 x0 4) - (s.1 x0 6)), .ref x0]) rfl ?_
  by_cases c1 : ((s.1 x0 4) - (s.1 x0 6)) ≤ (8 : Int32)
  · rw [if_pos c1] at h
    refine E_jt rfl rfl c1 ?_
    refine E_blk rfl ?_
    refine E_ps 1 (pc' := 86) (l' := [some (.ref x0)]) (st' := [.int (1 : Int32), .ref x0]) rfl ?_
    exact E_wk (l' := [none]) trivial (s88_86 k0 h hr)
  · rw [if_neg c1] at h
    refine E_jf rfl rfl c1 ?_
    refine E_blk rfl ?_
    refine E_ps 1 (pc' := 82) (l' := [some (.ref x0)]) (st' := [.int (5 : Int32), .ref x0]) rfl ?_
    refine E_j rfl rfl ?_
    exact E_wk (l' := [none]) trivial (s88_86 k0 h hr)
noncomputable def f88_5 (x0 : Nat) (s : xS) : Option ((xS) ⊕ (xS × Unit)) := if (s.1 x0 1) ≤ (s.1 x0 4) then (Option.map Sum.inr (f88_66 x0 s)) else ((hk_R x0 0).bind fun a2 => (aB s a2 (s.1 x0 4)).bind fun v4 => (f92 v4 s).bind fun z6 => if z6.2 = 0 then (Option.map Sum.inr (f88_66 x0 z6.1)) else ((hk_R x0 0).bind fun a9 => (aB z6.1 a9 (z6.1.1 x0 4)).bind fun v11 => (pL z6.1 x0 7 (((z6.1.2 x0 7) <<< ((8 : Int32).toInt64 &&& 63)) ||| v11.toInt64)).bind fun t13 => (pI t13 x0 4 ((t13.1 x0 4) + (1 : Int32))).bind fun t15 => some (Sum.inl t15)))
set_option maxRecDepth 20000 in
theorem s88_5 {sc : Option (Nat × (Nat → Int32))} {x0 : Nat} {s : xS} {o : xH × Option Value} {r : ((xS) ⊕ (xS × Unit))} (k0 : oK x0 8 = true) (h : f88_5 x0 s = some r) (hr : dn88_5 sc x0 o r) : Ev sc 2 88 [] 5 [some (.ref x0)] [] (hk_of s) o := by
  unfold f88_5 at h
  refine E_blk rfl ?_
  refine E_ps 1 (pc' := 6) (l' := [some (.ref x0)]) (st' := [.ref x0]) rfl ?_
  refine E_gi k0 (by decide) rfl ?_
  refine E_ps 1 (pc' := 10) (l' := [some (.ref x0)]) (st' := [.ref x0, .int (s.1 x0 4)]) rfl ?_
  refine E_gi k0 (by decide) rfl ?_
  by_cases c1 : (s.1 x0 1) ≤ (s.1 x0 4)
  · rw [if_pos c1] at h
    refine E_jt rfl rfl c1 ?_
    obtain ⟨r, h, hr⟩ := lf_some (Dn := dn88_5 sc x0 o) h hr
    exact E_wk (l' := [some (.ref x0)]) ⟨rfl, trivial⟩ (s88_66 k0 h hr)
  · rw [if_neg c1] at h
    refine E_jf rfl rfl c1 ?_
    refine E_blk rfl ?_
    refine E_ps 1 (pc' := 17) (l' := [some (.ref x0)]) (st' := [.ref x0]) rfl ?_
    obtain ⟨a2, e3, h⟩ := Option.bind_eq_some_iff.mp h
    refine E_gr k0 (by decide) rfl e3 ?_
    refine E_ps 1 (pc' := 21) (l' := [some (.ref x0)]) (st' := [.ref x0, .ref a2]) rfl ?_
    refine E_gi k0 (by decide) rfl ?_
    obtain ⟨v4, e5, h⟩ := Option.bind_eq_some_iff.mp h
    refine E_ab e5 ?_
    obtain ⟨z6, e7, h⟩ := Option.bind_eq_some_iff.mp h
    refine E_callI (vs := [.int v4]) (rest := []) rfl (by decide) rfl rfl (Nat.le_of_ble_eq_true rfl) (s92 e7) (by decide) ?_
    by_cases c8 : z6.2 = 0
    · rw [if_pos c8] at h
      refine E_jt rfl rfl c8 ?_
      obtain ⟨r, h, hr⟩ := lf_some (Dn := dn88_5 sc x0 o) h hr
      exact E_wk (l' := [some (.ref x0)]) ⟨rfl, trivial⟩ (s88_66 k0 h hr)
    · rw [if_neg c8] at h
      refine E_jf rfl rfl c8 ?_
      refine E_blk rfl ?_
      refine E_ps 2 (pc' := 33) (l' := [some (.ref x0)]) (st' := [.ref x0, .ref x0]) rfl ?_
      refine E_gl k0 (by decide) rfl ?_
      refine E_ps 3 (pc' := 40) (l' := [some (.ref x0)]) (st' := [.ref x0, .long ((z6.1.2 x0 7) <<< ((8 : Int32).toInt64 &&& 63)), .ref x0]) rfl ?_
      obtain ⟨a9, e10, h⟩ := Option.bind_eq_some_iff.mp h
      refine E_gr k0 (by decide) rfl e10 ?_
      refine E_ps 1 (pc' := 44) (l' := [some (.ref x0)]) (st' := [.ref x0, .ref a9, .long ((z6.1.2 x0 7) <<< ((8 : Int32).toInt64 &&& 63)), .ref x0]) rfl ?_
      refine E_gi k0 (by decide) rfl ?_
      obtain ⟨v11, e12, h⟩ := Option.bind_eq_some_iff.mp h
      refine E_ab e12 ?_
      refine E_ps 2 (pc' := 50) (l' := [some (.ref x0)]) (st' := [.long (((z6.1.2 x0 7) <<< ((8 : Int32).toInt64 &&& 63)) ||| v11.toInt64), .ref x0]) rfl ?_
      obtain ⟨t13, e14, h⟩ := Option.bind_eq_some_iff.mp h
      refine E_pl k0 (by decide) rfl e14 ?_
      refine E_ps 2 (pc' := 55) (l' := [some (.ref x0)]) (st' := [.ref x0, .ref x0]) rfl ?_
      refine E_gi k0 (by decide) rfl ?_
      refine E_ps 2 (pc' := 60) (l' := [some (.ref x0)]) (st' := [.int ((t13.1 x0 4) + (1 : Int32)), .ref x0]) rfl ?_
      obtain ⟨t15, e16, h⟩ := Option.bind_eq_some_iff.mp h
      refine E_pi k0 (by decide) rfl e16 ?_
      refine E_j rfl rfl ?_
      cases h
      exact E_wk (l' := [some (.ref x0)]) ⟨rfl, trivial⟩ hr
theorem s88_5_w {sc : Option (Nat × (Nat → Int32))} {x0 : Nat} {s : xS} {o : xH × Option Value} {r : (xS × Unit)} (k0 : oK x0 8 = true) (h : whl (fun q : (xS) => f88_5 x0 q) s = some r) (hr : dn88 o r) : Ev sc 2 88 [] 5 [some (.ref x0)] [] (hk_of s) o := by
  refine whl_snd (E := fun q : (xS) => Ev sc 2 88 [] 5 [some (.ref x0)] [] (hk_of q) o) (P := fun r => dn88 o r) (fun q r h hr => ?_) h hr
  exact s88_5 k0 h (by cases r <;> exact hr)
noncomputable def f88 (x0 : Nat) (s : xS) : Option (xS × Unit) := ifg (oK x0 8 = true) <| (pL s x0 7 (0 : Int64)).bind fun t1 => whl (fun q : (xS) => f88_5 x0 q) t1
set_option maxRecDepth 20000 in
theorem s88 {sc : Option (Nat × (Nat → Int32))} {x0 : Nat} {s : xS} {r : xS × Unit} (h : f88 x0 s = some r) : Cl sc 2 88 [.ref x0] (hk_of s) (hk_of r.1, none) := by
  unfold f88 at h
  obtain ⟨k0, h⟩ := ifg_some h
  refine ⟨pg_md 88, [some (.ref x0)], pg_mt_md (by decide), (hk_rcv k0), rfl, ?_⟩
  generalize ho : ((hk_of r.1, none) : xH × Option Value) = o
  have hr : dn88 o r := ho.symm
  refine E_blk rfl ?_
  refine E_ps 2 (pc' := 2) (l' := [some (.ref x0)]) (st' := [.long (0 : Int64), .ref x0]) rfl ?_
  obtain ⟨t1, e2, h⟩ := Option.bind_eq_some_iff.mp h
  refine E_pl k0 (by decide) rfl e2 ?_
  exact E_wk (l' := [some (.ref x0)]) ⟨rfl, trivial⟩ (s88_5_w k0 h hr)

-- 93: ThreePlates$Tape.isDigit(I)Z
def dn93 (o : xH × Option Value) (r : xS × Int32) : Prop := o = (hk_of r.1, some (.int r.2))
noncomputable def f93_17 (y0 : Int32) (s : xS) : Option (xS × Int32) := ifg (y0 = 0 ∨ y0 = 1) <| some (s, y0)
set_option maxRecDepth 20000 in
theorem s93_17 {sc : Option (Nat × (Nat → Int32))} {y0 : Int32} {s : xS} {o : xH × Option Value} {r : (xS × Int32)}  (h : f93_17 y0 s = some r) (hr : dn93 o r) : Ev sc 1 93 [] 17 [none] [.int y0] (hk_of s) o := by
  unfold f93_17 at h
  refine E_blk rfl ?_
  obtain ⟨g1, h⟩ := ifg_some h
  cases h
  exact E_ret rfl (pg_mt_md (by decide)) (hk_retz g1 rfl) hr
noncomputable def f93_16  (s : xS) : Option (xS × Int32) := f93_17 (0 : Int32) s
set_option maxRecDepth 20000 in
theorem s93_16 {sc : Option (Nat × (Nat → Int32))}  {s : xS} {o : xH × Option Value} {r : (xS × Int32)}  (h : f93_16  s = some r) (hr : dn93 o r) : Ev sc 1 93 [] 16 [none] [] (hk_of s) o := by
  unfold f93_16 at h
  refine E_blk rfl ?_
  refine E_ps 1 (pc' := 17) (l' := [none]) (st' := [.int (0 : Int32)]) rfl ?_
  exact E_wk (l' := [none]) trivial (s93_17  h hr)
noncomputable def f93 (x0 : Int32) (s : xS) : Option (xS × Int32) :=  if x0 < (48 : Int32) then (f93_16  s) else (if (57 : Int32) < x0 then (f93_16  s) else (f93_17 (1 : Int32) s))
set_option maxRecDepth 20000 in
theorem s93 {sc : Option (Nat × (Nat → Int32))} {x0 : Int32} {s : xS} {r : xS × Int32} (h : f93 x0 s = some r) : Cl sc 1 93 [.int x0] (hk_of s) (hk_of r.1, some (.int r.2)) := by
  unfold f93 at h
  refine ⟨pg_md 93, [some (.int x0)], pg_mt_md (by decide), rfl, rfl, ?_⟩
  generalize ho : ((hk_of r.1, some (Value.int r.2)) : xH × Option Value) = o
  have hr : dn93 o r := ho.symm
  refine E_blk rfl ?_
  refine E_ps 2 (pc' := 3) (l' := [some (.int x0)]) (st' := [.int (48 : Int32), .int x0]) rfl ?_
  by_cases c1 : x0 < (48 : Int32)
  · rw [if_pos c1] at h
    refine E_jt rfl rfl c1 ?_
    exact E_wk (l' := [none]) trivial (s93_16  h hr)
  · rw [if_neg c1] at h
    refine E_jf rfl rfl c1 ?_
    refine E_blk rfl ?_
    refine E_ps 2 (pc' := 9) (l' := [some (.int x0)]) (st' := [.int (57 : Int32), .int x0]) rfl ?_
    by_cases c2 : (57 : Int32) < x0
    · rw [if_pos c2] at h
      refine E_jt rfl rfl c2 ?_
      exact E_wk (l' := [none]) trivial (s93_16  h hr)
    · rw [if_neg c2] at h
      refine E_jf rfl rfl c2 ?_
      refine E_blk rfl ?_
      refine E_ps 1 (pc' := 13) (l' := [some (.int x0)]) (st' := [.int (1 : Int32)]) rfl ?_
      refine E_j rfl rfl ?_
      exact E_wk (l' := [none]) trivial (s93_17  h hr)

-- 89: ThreePlates$Tape.stepNumber()V
def dn89 (o : xH × Option Value) (r : xS × Unit) : Prop := o = (hk_of r.1, none)
def dn89_5 (sc : Option (Nat × (Nat → Int32))) (x0 : Nat) (o : xH × Option Value) (r : ((xS) ⊕ (xS × Unit))) : Prop := match r with
  | .inl q => Ev sc 2 89 [] 5 [some (.ref x0), none] [] (hk_of q) o
  | .inr r => dn89 o r
noncomputable def f89_123 (y0 : Int32) (y1 : Nat) (s : xS) : Option (xS × Unit) := (pI s y1 5 y0).bind fun t1 => some (t1, ())
set_option maxRecDepth 20000 in
theorem s89_123 {sc : Option (Nat × (Nat → Int32))} {y0 : Int32} {y1 : Nat} {s : xS} {o : xH × Option Value} {r : (xS × Unit)} (ky1 : oK y1 8 = true) (h : f89_123 y0 y1 s = some r) (hr : dn89 o r) : Ev sc 2 89 [] 123 [none, none] [.int y0, .ref y1] (hk_of s) o := by
  unfold f89_123 at h
  refine E_blk rfl ?_
  obtain ⟨t1, e2, h⟩ := Option.bind_eq_some_iff.mp h
  refine E_pi ky1 (by decide) rfl e2 ?_
  cases h
  exact E_ret rfl (pg_mt_md (by decide)) rfl hr
noncomputable def f89_118 (y0 : Nat) (s : xS) : Option (xS × Unit) := f89_123 (5 : Int32) y0 s
set_option maxRecDepth 20000 in
theorem s89_118 {sc : Option (Nat × (Nat → Int32))} {y0 : Nat} {s : xS} {o : xH × Option Value} {r : (xS × Unit)} (ky0 : oK y0 8 = true) (h : f89_118 y0 s = some r) (hr : dn89 o r) : Ev sc 2 89 [] 118 [none, none] [.ref y0] (hk_of s) o := by
  unfold f89_118 at h
  refine E_blk rfl ?_
  refine E_ps 1 (pc' := 119) (l' := [none, none]) (st' := [.int (5 : Int32), .ref y0]) rfl ?_
  refine E_j rfl rfl ?_
  exact E_wk (l' := [none, none]) trivial (s89_123 ky0 h hr)
noncomputable def f89_99 (x0 : Nat) (y0 : Int32) (s : xS) : Option (xS × Unit) := if y0 = 0 then (if ((s.1 x0 4) - (s.1 x0 6)) ≤ (4 : Int32) then (f89_123 (2 : Int32) x0 s) else (f89_118 x0 s)) else (f89_118 x0 s)
set_option maxRecDepth 20000 in
theorem s89_99 {sc : Option (Nat × (Nat → Int32))} {x0 : Nat} {y0 : Int32} {s : xS} {o : xH × Option Value} {r : (xS × Unit)} (k0 : oK x0 8 = true) (h : f89_99 x0 y0 s = some r) (hr : dn89 o r) : Ev sc 2 89 [] 99 [some (.ref x0), none] [.int y0] (hk_of s) o := by
  unfold f89_99 at h
  refine E_blk rfl ?_
  refine E_ps 3 (pc' := 102) (l' := [some (.ref x0), some (.int y0)]) (st' := [.int y0, .ref x0]) rfl ?_
  by_cases c1 : y0 = 0
  · rw [if_pos c1] at h
    refine E_jt rfl rfl c1 ?_
    refine E_blk rfl ?_
    refine E_ps 1 (pc' := 106) (l' := [some (.ref x0), some (.int y0)]) (st' := [.ref x0, .ref x0]) rfl ?_
    refine E_gi k0 (by decide) rfl ?_
    refine E_ps 1 (pc' := 110) (l' := [some (.ref x0), some (.int y0)]) (st' := [.ref x0, .int (s.1 x0 4), .ref x0]) rfl ?_
    refine E_gi k0 (by decide) rfl ?_
    refine E_ps 2 (pc' := 115) (l' := [some (.ref x0), some (.int y0)]) (st' := [.int (4 : Int32), .int ((s.1 x0 4) - (s.1 x0 6)), .ref x0]) rfl ?_
    by_cases c2 : ((s.1 x0 4) - (s.1 x0 6)) ≤ (4 : Int32)
    · rw [if_pos c2] at h
      refine E_jt rfl rfl c2 ?_
      refine E_blk rfl ?_
      refine E_ps 1 (pc' := 123) (l' := [some (.ref x0), some (.int y0)]) (st' := [.int (2 : Int32), .ref x0]) rfl ?_
      exact E_wk (l' := [none, none]) trivial (s89_123 k0 h hr)
    · rw [if_neg c2] at h
      refine E_jf rfl rfl c2 ?_
      exact E_wk (l' := [none, none]) trivial (s89_118 k0 h hr)
  · rw [if_neg c1] at h
    refine E_jf rfl rfl c1 ?_
    exact E_wk (l' := [none, none]) trivial (s89_118 k0 h hr)
noncomputable def f89_98 (x0 : Nat) (s : xS) : Option (xS × Unit) := f89_99 x0 (0 : Int32) s
set_option maxRecDepth 20000 in
theorem s89_98 {sc : Option (Nat × (Nat → Int32))} {x0 : Nat} {s : xS} {o : xH × Option Value} {r : (xS × Unit)} (k0 : oK x0 8 = true) (h : f89_98 x0 s = some r) (hr : dn89 o r) : Ev sc 2 89 [] 98 [some (.ref x0), none] [] (hk_of s) o := by
  unfold f89_98 at h
  refine E_blk rfl ?_
  refine E_ps 1 (pc' := 99) (l' := [some (.ref x0), none]) (st' := [.int (0 : Int32)]) rfl ?_
  exact E_wk (l' := [some (.ref x0), none]) ⟨rfl, trivial⟩ (s89_99 k0 h hr)
noncomputable def f89_68 (x0 : Nat) (s : xS) : Option (xS × Unit) := if (s.1 x0 1) ≤ (s.1 x0 4) then (f89_98 x0 s) else ((hk_R x0 0).bind fun a2 => (aB s a2 (s.1 x0 4)).bind fun v4 => (f92 v4 s).bind fun z6 => if z6.2 = 0 then (f89_98 x0 z6.1) else (f89_99 x0 (1 : Int32) z6.1))
set_option maxRecDepth 20000 in
theorem s89_68 {sc : Option (Nat × (Nat → Int32))} {x0 : Nat} {s : xS} {o : xH × Option Value} {r : (xS × Unit)} (k0 : oK x0 8 = true) (h : f89_68 x0 s = some r) (hr : dn89 o r) : Ev sc 2 89 [] 68 [some (.ref x0), none] [] (hk_of s) o := by
  unfold f89_68 at h
  refine E_blk rfl ?_
  refine E_ps 1 (pc' := 69) (l' := [some (.ref x0), none]) (st' := [.ref x0]) rfl ?_
  refine E_gi k0 (by decide) rfl ?_
  refine E_ps 1 (pc' := 73) (l' := [some (.ref x0), none]) (st' := [.ref x0, .int (s.1 x0 4)]) rfl ?_
  refine E_gi k0 (by decide) rfl ?_
  by_cases c1 : (s.1 x0 1) ≤ (s.1 x0 4)
  · rw [if_pos c1] at h
    refine E_jt rfl rfl c1 ?_
    exact E_wk (l' := [some (.ref x0), none]) ⟨rfl, trivial⟩ (s89_98 k0 h hr)
  · rw [if_neg c1] at h
    refine E_jf rfl rfl c1 ?_
    refine E_blk rfl ?_
    refine E_ps 1 (pc' := 80) (l' := [some (.ref x0), none]) (st' := [.ref x0]) rfl ?_
    obtain ⟨a2, e3, h⟩ := Option.bind_eq_some_iff.mp h
    refine E_gr k0 (by decide) rfl e3 ?_
    refine E_ps 1 (pc' := 84) (l' := [some (.ref x0), none]) (st' := [.ref x0, .ref a2]) rfl ?_
    refine E_gi k0 (by decide) rfl ?_
    obtain ⟨v4, e5, h⟩ := Option.bind_eq_some_iff.mp h
    refine E_ab e5 ?_
    obtain ⟨z6, e7, h⟩ := Option.bind_eq_some_iff.mp h
    refine E_callI (vs := [.int v4]) (rest := []) rfl (by decide) rfl rfl (Nat.le_of_ble_eq_true rfl) (s92 e7) (by decide) ?_
    by_cases c8 : z6.2 = 0
    · rw [if_pos c8] at h
      refine E_jt rfl rfl c8 ?_
      exact E_wk (l' := [some (.ref x0), none]) ⟨rfl, trivial⟩ (s89_98 k0 h hr)
    · rw [if_neg c8] at h
      refine E_jf rfl rfl c8 ?_
      refine E_blk rfl ?_
      refine E_ps 1 (pc' := 95) (l' := [some (.ref x0), none]) (st' := [.int (1 : Int32)]) rfl ?_
      refine E_j rfl rfl ?_
      exact E_wk (l' := [some (.ref x0), none]) ⟨rfl, trivial⟩ (s89_99 k0 h hr)
noncomputable def f89_5 (x0 : Nat) (s : xS) : Option ((xS) ⊕ (xS × Unit)) := if (s.1 x0 1) ≤ (s.1 x0 4) then (Option.map Sum.inr (f89_68 x0 s)) else ((hk_R x0 0).bind fun a2 => (aB s a2 (s.1 x0 4)).bind fun v4 => (f93 v4 s).bind fun z6 => if z6.2 = 0 then (Option.map Sum.inr (f89_68 x0 z6.1)) else ((hk_R x0 0).bind fun a9 => (aB z6.1 a9 (z6.1.1 x0 4)).bind fun v11 => (pI z6.1 x0 8 (((z6.1.1 x0 8) * (10 : Int32)) + (v11 - (48 : Int32)))).bind fun t13 => (pI t13 x0 4 ((t13.1 x0 4) + (1 : Int32))).bind fun t15 => some (Sum.inl t15)))
set_option maxRecDepth 20000 in
theorem s89_5 {sc : Option (Nat × (Nat → Int32))} {x0 : Nat} {s : xS} {o : xH × Option Value} {r : ((xS) ⊕ (xS × Unit))} (k0 : oK x0 8 = true) (h : f89_5 x0 s = some r) (hr : dn89_5 sc x0 o r) : Ev sc 2 89 [] 5 [some (.ref x0), none] [] (hk_of s) o := by
  unfold f89_5 at h
  refine E_blk rfl ?_
  refine E_ps 1 (pc' := 6) (l' := [some (.ref x0), none]) (st' := [.ref x0]) rfl ?_
  refine E_gi k0 (by decide) rfl ?_
  refine E_ps 1 (pc' := 10) (l' := [some (.ref x0), none]) (st' := [.ref x0, .int (s.1 x0 4)]) rfl ?_
  refine E_gi k0 (by decide) rfl ?_
  by_cases c1 : (s.1 x0 1) ≤ (s.1 x0 4)
  · rw [if_pos c1] at h
    refine E_jt rfl rfl c1 ?_
    obtain ⟨r, h, hr⟩ := lf_some (Dn := dn89_5 sc x0 o) h hr
    exact E_wk (l' := [some (.ref x0), none]) ⟨rfl, trivial⟩ (s89_68 k0 h hr)
  · rw [if_neg c1] at h
    refine E_jf rfl rfl c1 ?_
    refine E_blk rfl ?_
    refine E_ps 1 (pc' := 17) (l' := [some (.ref x0), none]) (st' := [.ref x0]) rfl ?_
    obtain ⟨a2, e3, h⟩ := Option.bind_eq_some_iff.mp h
    refine E_gr k0 (by decide) rfl e3 ?_
    refine E_ps 1 (pc' := 21) (l' := [some (.ref x0), none]) (st' := [.ref x0, .ref a2]) rfl ?_
    refine E_gi k0 (by decide) rfl ?_
    obtain ⟨v4, e5, h⟩ := Option.bind_eq_some_iff.mp h
    refine E_ab e5 ?_
    obtain ⟨z6, e7, h⟩ := Option.bind_eq_some_iff.mp h
    refine E_callI (vs := [.int v4]) (rest := []) rfl (by decide) rfl rfl (Nat.le_of_ble_eq_true rfl) (s93 e7) (by decide) ?_
    by_cases c8 : z6.2 = 0
    · rw [if_pos c8] at h
      refine E_jt rfl rfl c8 ?_
      obtain ⟨r, h, hr⟩ := lf_some (Dn := dn89_5 sc x0 o) h hr
      exact E_wk (l' := [some (.ref x0), none]) ⟨rfl, trivial⟩ (s89_68 k0 h hr)
    · rw [if_neg c8] at h
      refine E_jf rfl rfl c8 ?_
      refine E_blk rfl ?_
      refine E_ps 2 (pc' := 33) (l' := [some (.ref x0), none]) (st' := [.ref x0, .ref x0]) rfl ?_
      refine E_gi k0 (by decide) rfl ?_
      refine E_ps 3 (pc' := 40) (l' := [some (.ref x0), none]) (st' := [.ref x0, .int ((z6.1.1 x0 8) * (10 : Int32)), .ref x0]) rfl ?_
      obtain ⟨a9, e10, h⟩ := Option.bind_eq_some_iff.mp h
      refine E_gr k0 (by decide) rfl e10 ?_
      refine E_ps 1 (pc' := 44) (l' := [some (.ref x0), none]) (st' := [.ref x0, .ref a9, .int ((z6.1.1 x0 8) * (10 : Int32)), .ref x0]) rfl ?_
      refine E_gi k0 (by decide) rfl ?_
      obtain ⟨v11, e12, h⟩ := Option.bind_eq_some_iff.mp h
      refine E_ab e12 ?_
      refine E_ps 3 (pc' := 52) (l' := [some (.ref x0), none]) (st' := [.int (((z6.1.1 x0 8) * (10 : Int32)) + (v11 - (48 : Int32))), .ref x0]) rfl ?_
      obtain ⟨t13, e14, h⟩ := Option.bind_eq_some_iff.mp h
      refine E_pi k0 (by decide) rfl e14 ?_
      refine E_ps 2 (pc' := 57) (l' := [some (.ref x0), none]) (st' := [.ref x0, .ref x0]) rfl ?_
      refine E_gi k0 (by decide) rfl ?_
      refine E_ps 2 (pc' := 62) (l' := [some (.ref x0), none]) (st' := [.int ((t13.1 x0 4) + (1 : Int32)), .ref x0]) rfl ?_
      obtain ⟨t15, e16, h⟩ := Option.bind_eq_some_iff.mp h
      refine E_pi k0 (by decide) rfl e16 ?_
      refine E_j rfl rfl ?_
      cases h
      exact E_wk (l' := [some (.ref x0), none]) ⟨rfl, trivial⟩ hr
theorem s89_5_w {sc : Option (Nat × (Nat → Int32))} {x0 : Nat} {s : xS} {o : xH × Option Value} {r : (xS × Unit)} (k0 : oK x0 8 = true) (h : whl (fun q : (xS) => f89_5 x0 q) s = some r) (hr : dn89 o r) : Ev sc 2 89 [] 5 [some (.ref x0), none] [] (hk_of s) o := by
  refine whl_snd (E := fun q : (xS) => Ev sc 2 89 [] 5 [some (.ref x0), none] [] (hk_of q) o) (P := fun r => dn89 o r) (fun q r h hr => ?_) h hr
  exact s89_5 k0 h (by cases r <;> exact hr)
noncomputable def f89 (x0 : Nat) (s : xS) : Option (xS × Unit) := ifg (oK x0 8 = true) <| (pI s x0 8 (0 : Int32)).bind fun t1 => whl (fun q : (xS) => f89_5 x0 q) t1
set_option maxRecDepth 20000 in
theorem s89 {sc : Option (Nat × (Nat → Int32))} {x0 : Nat} {s : xS} {r : xS × Unit} (h : f89 x0 s = some r) : Cl sc 2 89 [.ref x0] (hk_of s) (hk_of r.1, none) := by
  unfold f89 at h
  obtain ⟨k0, h⟩ := ifg_some h
  refine ⟨pg_md 89, [some (.ref x0), none], pg_mt_md (by decide), (hk_rcv k0), rfl, ?_⟩
  generalize ho : ((hk_of r.1, none) : xH × Option Value) = o
  have hr : dn89 o r := ho.symm
  refine E_blk rfl ?_
  refine E_ps 2 (pc' := 2) (l' := [some (.ref x0), none]) (st' := [.int (0 : Int32), .ref x0]) rfl ?_
  obtain ⟨t1, e2, h⟩ := Option.bind_eq_some_iff.mp h
  refine E_pi k0 (by decide) rfl e2 ?_
  exact E_wk (l' := [some (.ref x0), none]) ⟨rfl, trivial⟩ (s89_5_w k0 h hr)

-- 90: ThreePlates$Tape.stepSign(I)V
def dn90 (o : xH × Option Value) (r : xS × Unit) : Prop := o = (hk_of r.1, none)
noncomputable def f90_33 (x0 : Nat) (s : xS) : Option (xS × Unit) := (pI s x0 4 ((s.1 x0 4) + (1 : Int32))).bind fun t1 => some (t1, ())
set_option maxRecDepth 20000 in
theorem s90_33 {sc : Option (Nat × (Nat → Int32))} {x0 : Nat} {s : xS} {o : xH × Option Value} {r : (xS × Unit)} (k0 : oK x0 8 = true) (h : f90_33 x0 s = some r) (hr : dn90 o r) : Ev sc 1 90 [] 33 [some (.ref x0), none] [] (hk_of s) o := by
  unfold f90_33 at h
  refine E_blk rfl ?_
  refine E_ps 2 (pc' := 35) (l' := [some (.ref x0), none]) (st' := [.ref x0, .ref x0]) rfl ?_
  refine E_gi k0 (by decide) rfl ?_
  refine E_ps 2 (pc' := 40) (l' := [some (.ref x0), none]) (st' := [.int ((s.1 x0 4) + (1 : Int32)), .ref x0]) rfl ?_
  obtain ⟨t1, e2, h⟩ := Option.bind_eq_some_iff.mp h
  refine E_pi k0 (by decide) rfl e2 ?_
  cases h
  exact E_ret rfl (pg_mt_md (by decide)) rfl hr
noncomputable def f90 (x0 : Nat) (x1 : Int32) (s : xS) : Option (xS × Unit) := ifg (oK x0 8 = true) <| if x1 = (59 : Int32) then ((pI s x0 5 (3 : Int32)).bind fun t2 => f90_33 x0 t2) else (if x1 = (45 : Int32) then ((pI s x0 5 (4 : Int32)).bind fun t5 => f90_33 x0 t5) else ((pI s x0 5 (5 : Int32)).bind fun t7 => f90_33 x0 t7))
set_option maxRecDepth 20000 in
theorem s90 {sc : Option (Nat × (Nat → Int32))} {x0 : Nat} {x1 : Int32} {s : xS} {r : xS × Unit} (h : f90 x0 x1 s = some r) : Cl sc 1 90 [.ref x0, .int x1] (hk_of s) (hk_of r.1, none) := by
  unfold f90 at h
  obtain ⟨k0, h⟩ := ifg_some h
  refine ⟨pg_md 90, [some (.ref x0), some (.int x1)], pg_mt_md (by decide), (hk_rcv k0), rfl, ?_⟩
  generalize ho : ((hk_of r.1, none) : xH × Option Value) = o
  have hr : dn90 o r := ho.symm
  refine E_blk rfl ?_
  refine E_ps 2 (pc' := 3) (l' := [some (.ref x0), some (.int x1)]) (st' := [.int (59 : Int32), .int x1]) rfl ?_
  by_cases c1 : x1 = (59 : Int32)
  · rw [if_pos c1] at h
    refine E_jt rfl rfl c1 ?_
    refine E_blk rfl ?_
    refine E_ps 2 (pc' := 8) (l' := [some (.ref x0), some (.int x1)]) (st' := [.int (3 : Int32), .ref x0]) rfl ?_
    obtain ⟨t2, e3, h⟩ := Option.bind_eq_some_iff.mp h
    refine E_pi k0 (by decide) rfl e3 ?_
    refine E_j rfl rfl ?_
    exact E_wk (l' := [some (.ref x0), none]) ⟨rfl, trivial⟩ (s90_33 k0 h hr)
  · rw [if_neg c1] at h
    refine E_jf rfl rfl c1 ?_
    refine E_blk rfl ?_
    refine E_ps 2 (pc' := 17) (l' := [some (.ref x0), some (.int x1)]) (st' := [.int (45 : Int32), .int x1]) rfl ?_
    by_cases c4 : x1 = (45 : Int32)
    · rw [if_pos c4] at h
      refine E_jt rfl rfl c4 ?_
      refine E_blk rfl ?_
      refine E_ps 2 (pc' := 22) (l' := [some (.ref x0), some (.int x1)]) (st' := [.int (4 : Int32), .ref x0]) rfl ?_
      obtain ⟨t5, e6, h⟩ := Option.bind_eq_some_iff.mp h
      refine E_pi k0 (by decide) rfl e6 ?_
      refine E_j rfl rfl ?_
      exact E_wk (l' := [some (.ref x0), none]) ⟨rfl, trivial⟩ (s90_33 k0 h hr)
    · rw [if_neg c4] at h
      refine E_jf rfl rfl c4 ?_
      refine E_blk rfl ?_
      refine E_ps 2 (pc' := 30) (l' := [some (.ref x0), some (.int x1)]) (st' := [.int (5 : Int32), .ref x0]) rfl ?_
      obtain ⟨t7, e8, h⟩ := Option.bind_eq_some_iff.mp h
      refine E_pi k0 (by decide) rfl e8 ?_
      exact E_wk (l' := [some (.ref x0), none]) ⟨rfl, trivial⟩ (s90_33 k0 h hr)

-- 91: ThreePlates$Tape.isBlank(I)Z
def dn91 (o : xH × Option Value) (r : xS × Int32) : Prop := o = (hk_of r.1, some (.int r.2))
noncomputable def f91_17 (y0 : Int32) (s : xS) : Option (xS × Int32) := ifg (y0 = 0 ∨ y0 = 1) <| some (s, y0)
set_option maxRecDepth 20000 in
theorem s91_17 {sc : Option (Nat × (Nat → Int32))} {y0 : Int32} {s : xS} {o : xH × Option Value} {r : (xS × Int32)}  (h : f91_17 y0 s = some r) (hr : dn91 o r) : Ev sc 1 91 [] 17 [none] [.int y0] (hk_of s) o := by
  unfold f91_17 at h
  refine E_blk rfl ?_
  obtain ⟨g1, h⟩ := ifg_some h
  cases h
  exact E_ret rfl (pg_mt_md (by decide)) (hk_retz g1 rfl) hr
noncomputable def f91_12  (s : xS) : Option (xS × Int32) := f91_17 (1 : Int32) s
set_option maxRecDepth 20000 in
theorem s91_12 {sc : Option (Nat × (Nat → Int32))}  {s : xS} {o : xH × Option Value} {r : (xS × Int32)}  (h : f91_12  s = some r) (hr : dn91 o r) : Ev sc 1 91 [] 12 [none] [] (hk_of s) o := by
  unfold f91_12 at h
  refine E_blk rfl ?_
  refine E_ps 1 (pc' := 13) (l' := [none]) (st' := [.int (1 : Int32)]) rfl ?_
  refine E_j rfl rfl ?_
  exact E_wk (l' := [none]) trivial (s91_17  h hr)
noncomputable def f91 (x0 : Int32) (s : xS) : Option (xS × Int32) :=  if x0 = (32 : Int32) then (f91_12  s) else (if x0 = (10 : Int32) then (f91_12  s) else (f91_17 (0 : Int32) s))
set_option maxRecDepth 20000 in
theorem s91 {sc : Option (Nat × (Nat → Int32))} {x0 : Int32} {s : xS} {r : xS × Int32} (h : f91 x0 s = some r) : Cl sc 1 91 [.int x0] (hk_of s) (hk_of r.1, some (.int r.2)) := by
  unfold f91 at h
  refine ⟨pg_md 91, [some (.int x0)], pg_mt_md (by decide), rfl, rfl, ?_⟩
  generalize ho : ((hk_of r.1, some (Value.int r.2)) : xH × Option Value) = o
  have hr : dn91 o r := ho.symm
  refine E_blk rfl ?_
  refine E_ps 2 (pc' := 3) (l' := [some (.int x0)]) (st' := [.int (32 : Int32), .int x0]) rfl ?_
  by_cases c1 : x0 = (32 : Int32)
  · rw [if_pos c1] at h
    refine E_jt rfl rfl c1 ?_
    exact E_wk (l' := [none]) trivial (s91_12  h hr)
  · rw [if_neg c1] at h
    refine E_jf rfl rfl c1 ?_
    refine E_blk rfl ?_
    refine E_ps 2 (pc' := 9) (l' := [some (.int x0)]) (st' := [.int (10 : Int32), .int x0]) rfl ?_
    by_cases c2 : x0 = (10 : Int32)
    · rw [if_pos c2] at h
      refine E_jt rfl rfl c2 ?_
      exact E_wk (l' := [none]) trivial (s91_12  h hr)
    · rw [if_neg c2] at h
      refine E_jf rfl rfl c2 ?_
      refine E_blk rfl ?_
      refine E_ps 1 (pc' := 17) (l' := [some (.int x0)]) (st' := [.int (0 : Int32)]) rfl ?_
      exact E_wk (l' := [none]) trivial (s91_17  h hr)

-- 87: ThreePlates$Tape.step()V
def dn87 (o : xH × Option Value) (r : xS × Unit) : Prop := o = (hk_of r.1, none)
def dn87_0 (sc : Option (Nat × (Nat → Int32))) (x0 : Nat) (o : xH × Option Value) (r : ((xS) ⊕ (xS × Unit))) : Prop := match r with
  | .inl q => Ev sc 3 87 [] 0 [some (.ref x0)] [] (hk_of q) o
  | .inr r => dn87 o r
noncomputable def f87_123  (s : xS) : Option (xS × Unit) := some (s, ())
set_option maxRecDepth 20000 in
theorem s87_123 {sc : Option (Nat × (Nat → Int32))}  {s : xS} {o : xH × Option Value} {r : (xS × Unit)}  (h : f87_123  s = some r) (hr : dn87 o r) : Ev sc 3 87 [] 123 [none] [] (hk_of s) o := by
  unfold f87_123 at h
  refine E_blk rfl ?_
  cases h
  exact E_ret rfl (pg_mt_md (by decide)) rfl hr
noncomputable def f87_39 (x0 : Nat) (s : xS) : Option (xS × Unit) := (pI s x0 6 (s.1 x0 4)).bind fun t1 => if (t1.1 x0 4) < (t1.1 x0 1) then ((hk_R x0 0).bind fun a4 => (aB t1 a4 (t1.1 x0 4)).bind fun v6 => (f92 v6 t1).bind fun z8 => if z8.2 = 0 then ((hk_R x0 0).bind fun a11 => (aB z8.1 a11 (z8.1.1 x0 4)).bind fun v13 => (f93 v13 z8.1).bind fun z15 => if z15.2 = 0 then ((hk_R x0 0).bind fun a18 => (aB z15.1 a18 (z15.1.1 x0 4)).bind fun v20 => (f90 x0 v20 z15.1).bind fun z22 => f87_123  z22.1) else ((f89 x0 z15.1).bind fun z24 => f87_123  z24.1)) else ((f88 x0 z8.1).bind fun z26 => f87_123  z26.1)) else ((pI t1 x0 5 (0 : Int32)).bind fun t28 => f87_123  t28)
set_option maxRecDepth 20000 in
theorem s87_39 {sc : Option (Nat × (Nat → Int32))} {x0 : Nat} {s : xS} {o : xH × Option Value} {r : (xS × Unit)} (k0 : oK x0 8 = true) (h : f87_39 x0 s = some r) (hr : dn87 o r) : Ev sc 3 87 [] 39 [some (.ref x0)] [] (hk_of s) o := by
  unfold f87_39 at h
  refine E_blk rfl ?_
  refine E_ps 2 (pc' := 41) (l' := [some (.ref x0)]) (st' := [.ref x0, .ref x0]) rfl ?_
  refine E_gi k0 (by decide) rfl ?_
  obtain ⟨t1, e2, h⟩ := Option.bind_eq_some_iff.mp h
  refine E_pi k0 (by decide) rfl e2 ?_
  refine E_ps 1 (pc' := 48) (l' := [some (.ref x0)]) (st' := [.ref x0]) rfl ?_
  refine E_gi k0 (by decide) rfl ?_
  refine E_ps 1 (pc' := 52) (l' := [some (.ref x0)]) (st' := [.ref x0, .int (t1.1 x0 4)]) rfl ?_
  refine E_gi k0 (by decide) rfl ?_
  by_cases c3 : (t1.1 x0 4) < (t1.1 x0 1)
  · rw [if_pos c3] at h
    refine E_jt rfl rfl c3 ?_
    refine E_blk rfl ?_
    refine E_ps 1 (pc' := 67) (l' := [some (.ref x0)]) (st' := [.ref x0]) rfl ?_
    obtain ⟨a4, e5, h⟩ := Option.bind_eq_some_iff.mp h
    refine E_gr k0 (by decide) rfl e5 ?_
    refine E_ps 1 (pc' := 71) (l' := [some (.ref x0)]) (st' := [.ref x0, .ref a4]) rfl ?_
    refine E_gi k0 (by decide) rfl ?_
    obtain ⟨v6, e7, h⟩ := Option.bind_eq_some_iff.mp h
    refine E_ab e7 ?_
    obtain ⟨z8, e9, h⟩ := Option.bind_eq_some_iff.mp h
    refine E_callI (vs := [.int v6]) (rest := []) rfl (by decide) rfl rfl (Nat.le_of_ble_eq_true rfl) (s92 e9) (by decide) ?_
    by_cases c10 : z8.2 = 0
    · rw [if_pos c10] at h
      refine E_jt rfl rfl c10 ?_
      refine E_blk rfl ?_
      refine E_ps 1 (pc' := 89) (l' := [some (.ref x0)]) (st' := [.ref x0]) rfl ?_
      obtain ⟨a11, e12, h⟩ := Option.bind_eq_some_iff.mp h
      refine E_gr k0 (by decide) rfl e12 ?_
      refine E_ps 1 (pc' := 93) (l' := [some (.ref x0)]) (st' := [.ref x0, .ref a11]) rfl ?_
      refine E_gi k0 (by decide) rfl ?_
      obtain ⟨v13, e14, h⟩ := Option.bind_eq_some_iff.mp h
      refine E_ab e14 ?_
      obtain ⟨z15, e16, h⟩ := Option.bind_eq_some_iff.mp h
      refine E_callI (vs := [.int v13]) (rest := []) rfl (by decide) rfl rfl (Nat.le_of_ble_eq_true rfl) (s93 e16) (by decide) ?_
      by_cases c17 : z15.2 = 0
      · rw [if_pos c17] at h
        refine E_jt rfl rfl c17 ?_
        refine E_blk rfl ?_
        refine E_ps 2 (pc' := 112) (l' := [some (.ref x0)]) (st' := [.ref x0, .ref x0]) rfl ?_
        obtain ⟨a18, e19, h⟩ := Option.bind_eq_some_iff.mp h
        refine E_gr k0 (by decide) rfl e19 ?_
        refine E_ps 1 (pc' := 116) (l' := [some (.ref x0)]) (st' := [.ref x0, .ref a18, .ref x0]) rfl ?_
        refine E_gi k0 (by decide) rfl ?_
        obtain ⟨v20, e21, h⟩ := Option.bind_eq_some_iff.mp h
        refine E_ab e21 ?_
        obtain ⟨z22, e23, h⟩ := Option.bind_eq_some_iff.mp h
        refine E_callV (vs := [.ref x0, .int v20]) (rest := []) rfl (by decide) rfl rfl (Nat.le_of_ble_eq_true rfl) (s90 e23) (by decide) ?_
        exact E_wk (l' := [none]) trivial (s87_123  h hr)
      · rw [if_neg c17] at h
        refine E_jf rfl rfl c17 ?_
        refine E_blk rfl ?_
        refine E_ps 1 (pc' := 104) (l' := [some (.ref x0)]) (st' := [.ref x0]) rfl ?_
        obtain ⟨z24, e25, h⟩ := Option.bind_eq_some_iff.mp h
        refine E_callV (vs := [.ref x0]) (rest := []) rfl (by decide) rfl rfl (Nat.le_of_ble_eq_true rfl) (s89 e25) (by decide) ?_
        refine E_j rfl rfl ?_
        exact E_wk (l' := [none]) trivial (s87_123  h hr)
    · rw [if_neg c10] at h
      refine E_jf rfl rfl c10 ?_
      refine E_blk rfl ?_
      refine E_ps 1 (pc' := 82) (l' := [some (.ref x0)]) (st' := [.ref x0]) rfl ?_
      obtain ⟨z26, e27, h⟩ := Option.bind_eq_some_iff.mp h
      refine E_callV (vs := [.ref x0]) (rest := []) rfl (by decide) rfl rfl (Nat.le_of_ble_eq_true rfl) (s88 e27) (by decide) ?_
      refine E_j rfl rfl ?_
      exact E_wk (l' := [none]) trivial (s87_123  h hr)
  · rw [if_neg c3] at h
    refine E_jf rfl rfl c3 ?_
    refine E_blk rfl ?_
    refine E_ps 2 (pc' := 60) (l' := [some (.ref x0)]) (st' := [.int (0 : Int32), .ref x0]) rfl ?_
    obtain ⟨t28, e29, h⟩ := Option.bind_eq_some_iff.mp h
    refine E_pi k0 (by decide) rfl e29 ?_
    refine E_j rfl rfl ?_
    exact E_wk (l' := [none]) trivial (s87_123  h hr)
noncomputable def f87_0 (x0 : Nat) (s : xS) : Option ((xS) ⊕ (xS × Unit)) := if (s.1 x0 1) ≤ (s.1 x0 4) then (Option.map Sum.inr (f87_39 x0 s)) else ((hk_R x0 0).bind fun a2 => (aB s a2 (s.1 x0 4)).bind fun v4 => (f91 v4 s).bind fun z6 => if z6.2 = 0 then (Option.map Sum.inr (f87_39 x0 z6.1)) else ((pI z6.1 x0 4 ((z6.1.1 x0 4) + (1 : Int32))).bind fun t9 => some (Sum.inl t9)))
set_option maxRecDepth 20000 in
theorem s87_0 {sc : Option (Nat × (Nat → Int32))} {x0 : Nat} {s : xS} {o : xH × Option Value} {r : ((xS) ⊕ (xS × Unit))} (k0 : oK x0 8 = true) (h : f87_0 x0 s = some r) (hr : dn87_0 sc x0 o r) : Ev sc 3 87 [] 0 [some (.ref x0)] [] (hk_of s) o := by
  unfold f87_0 at h
  refine E_blk rfl ?_
  refine E_ps 1 (pc' := 1) (l' := [some (.ref x0)]) (st' := [.ref x0]) rfl ?_
  refine E_gi k0 (by decide) rfl ?_
  refine E_ps 1 (pc' := 5) (l' := [some (.ref x0)]) (st' := [.ref x0, .int (s.1 x0 4)]) rfl ?_
  refine E_gi k0 (by decide) rfl ?_
  by_cases c1 : (s.1 x0 1) ≤ (s.1 x0 4)
  · rw [if_pos c1] at h
    refine E_jt rfl rfl c1 ?_
    obtain ⟨r, h, hr⟩ := lf_some (Dn := dn87_0 sc x0 o) h hr
    exact E_wk (l' := [some (.ref x0)]) ⟨rfl, trivial⟩ (s87_39 k0 h hr)
  · rw [if_neg c1] at h
    refine E_jf rfl rfl c1 ?_
    refine E_blk rfl ?_
    refine E_ps 1 (pc' := 12) (l' := [some (.ref x0)]) (st' := [.ref x0]) rfl ?_
    obtain ⟨a2, e3, h⟩ := Option.bind_eq_some_iff.mp h
    refine E_gr k0 (by decide) rfl e3 ?_
    refine E_ps 1 (pc' := 16) (l' := [some (.ref x0)]) (st' := [.ref x0, .ref a2]) rfl ?_
    refine E_gi k0 (by decide) rfl ?_
    obtain ⟨v4, e5, h⟩ := Option.bind_eq_some_iff.mp h
    refine E_ab e5 ?_
    obtain ⟨z6, e7, h⟩ := Option.bind_eq_some_iff.mp h
    refine E_callI (vs := [.int v4]) (rest := []) rfl (by decide) rfl rfl (Nat.le_of_ble_eq_true rfl) (s91 e7) (by decide) ?_
    by_cases c8 : z6.2 = 0
    · rw [if_pos c8] at h
      refine E_jt rfl rfl c8 ?_
      obtain ⟨r, h, hr⟩ := lf_some (Dn := dn87_0 sc x0 o) h hr
      exact E_wk (l' := [some (.ref x0)]) ⟨rfl, trivial⟩ (s87_39 k0 h hr)
    · rw [if_neg c8] at h
      refine E_jf rfl rfl c8 ?_
      refine E_blk rfl ?_
      refine E_ps 2 (pc' := 28) (l' := [some (.ref x0)]) (st' := [.ref x0, .ref x0]) rfl ?_
      refine E_gi k0 (by decide) rfl ?_
      refine E_ps 2 (pc' := 33) (l' := [some (.ref x0)]) (st' := [.int ((z6.1.1 x0 4) + (1 : Int32)), .ref x0]) rfl ?_
      obtain ⟨t9, e10, h⟩ := Option.bind_eq_some_iff.mp h
      refine E_pi k0 (by decide) rfl e10 ?_
      refine E_j rfl rfl ?_
      cases h
      exact E_wk (l' := [some (.ref x0)]) ⟨rfl, trivial⟩ hr
theorem s87_0_w {sc : Option (Nat × (Nat → Int32))} {x0 : Nat} {s : xS} {o : xH × Option Value} {r : (xS × Unit)} (k0 : oK x0 8 = true) (h : whl (fun q : (xS) => f87_0 x0 q) s = some r) (hr : dn87 o r) : Ev sc 3 87 [] 0 [some (.ref x0)] [] (hk_of s) o := by
  refine whl_snd (E := fun q : (xS) => Ev sc 3 87 [] 0 [some (.ref x0)] [] (hk_of q) o) (P := fun r => dn87 o r) (fun q r h hr => ?_) h hr
  exact s87_0 k0 h (by cases r <;> exact hr)
noncomputable def f87 (x0 : Nat) (s : xS) : Option (xS × Unit) := ifg (oK x0 8 = true) <| whl (fun q : (xS) => f87_0 x0 q) s
set_option maxRecDepth 20000 in
theorem s87 {sc : Option (Nat × (Nat → Int32))} {x0 : Nat} {s : xS} {r : xS × Unit} (h : f87 x0 s = some r) : Cl sc 3 87 [.ref x0] (hk_of s) (hk_of r.1, none) := by
  unfold f87 at h
  obtain ⟨k0, h⟩ := ifg_some h
  refine ⟨pg_md 87, [some (.ref x0)], pg_mt_md (by decide), (hk_rcv k0), rfl, ?_⟩
  generalize ho : ((hk_of r.1, none) : xH × Option Value) = o
  have hr : dn87 o r := ho.symm
  exact E_wk (l' := [some (.ref x0)]) ⟨rfl, trivial⟩ (s87_0_w k0 h hr)

-- 83: ThreePlates$Tape.takeWord(J)Z
def dn83 (o : xH × Option Value) (r : xS × Int32) : Prop := o = (hk_of r.1, some (.int r.2))
noncomputable def f83 (x0 : Nat) (x1 : Int64) (s : xS) : Option (xS × Int32) := ifg (oK x0 8 = true) <| (f82 x0 x1 s).bind fun z1 => if z1.2 = 0 then ((f80 x0 z1.1).bind fun z4 => ifg (z4.2 = 0 ∨ z4.2 = 1) <| some (z4.1, z4.2)) else ((f87 x0 z1.1).bind fun z7 => some (z7.1, (1 : Int32)))
set_option maxRecDepth 20000 in
theorem s83 {sc : Option (Nat × (Nat → Int32))} {x0 : Nat} {x1 : Int64} {s : xS} {r : xS × Int32} (h : f83 x0 x1 s = some r) : Cl sc 4 83 [.ref x0, .long x1] (hk_of s) (hk_of r.1, some (.int r.2)) := by
  unfold f83 at h
  obtain ⟨k0, h⟩ := ifg_some h
  refine ⟨pg_md 83, [some (.ref x0), some (.long x1), none], pg_mt_md (by decide), (hk_rcv k0), rfl, ?_⟩
  generalize ho : ((hk_of r.1, some (Value.int r.2)) : xH × Option Value) = o
  have hr : dn83 o r := ho.symm
  refine E_blk rfl ?_
  refine E_ps 2 (pc' := 2) (l' := [some (.ref x0), some (.long x1), none]) (st' := [.long x1, .ref x0]) rfl ?_
  obtain ⟨z1, e2, h⟩ := Option.bind_eq_some_iff.mp h
  refine E_callI (vs := [.ref x0, .long x1]) (rest := []) rfl (by decide) rfl rfl (Nat.le_of_ble_eq_true rfl) (s82 e2) (by decide) ?_
  by_cases c3 : z1.2 = 0
  · rw [if_pos c3] at h
    refine E_jt rfl rfl c3 ?_
    refine E_blk rfl ?_
    refine E_ps 1 (pc' := 9) (l' := [some (.ref x0), some (.long x1), none]) (st' := [.ref x0]) rfl ?_
    obtain ⟨z4, e5, h⟩ := Option.bind_eq_some_iff.mp h
    refine E_callI (vs := [.ref x0]) (rest := []) rfl (by decide) rfl rfl (Nat.le_of_ble_eq_true rfl) (s80 e5) (by decide) ?_
    obtain ⟨g6, h⟩ := ifg_some h
    cases h
    exact E_ret rfl (pg_mt_md (by decide)) (hk_retz g6 rfl) hr
  · rw [if_neg c3] at h
    refine E_jf rfl rfl c3 ?_
    refine E_blk rfl ?_
    refine E_ps 1 (pc' := 14) (l' := [some (.ref x0), some (.long x1), none]) (st' := [.ref x0]) rfl ?_
    obtain ⟨z7, e8, h⟩ := Option.bind_eq_some_iff.mp h
    refine E_callV (vs := [.ref x0]) (rest := []) rfl (by decide) rfl rfl (Nat.le_of_ble_eq_true rfl) (s87 e8) (by decide) ?_
    refine E_ps 1 (pc' := 18) (l' := [some (.ref x0), some (.long x1), none]) (st' := [.int (1 : Int32)]) rfl ?_
    cases h
    exact E_ret rfl (pg_mt_md (by decide)) rfl hr

-- 94: ThreePlates$Tape.isKeyword(J)Z
def dn94 (o : xH × Option Value) (r : xS × Int32) : Prop := o = (hk_of r.1, some (.int r.2))
noncomputable def f94_85 (y0 : Int32) (s : xS) : Option (xS × Int32) := ifg (y0 = 0 ∨ y0 = 1) <| some (s, y0)
set_option maxRecDepth 20000 in
theorem s94_85 {sc : Option (Nat × (Nat → Int32))} {y0 : Int32} {s : xS} {o : xH × Option Value} {r : (xS × Int32)}  (h : f94_85 y0 s = some r) (hr : dn94 o r) : Ev sc 1 94 [] 85 [none, none] [.int y0] (hk_of s) o := by
  unfold f94_85 at h
  refine E_blk rfl ?_
  obtain ⟨g1, h⟩ := ifg_some h
  cases h
  exact E_ret rfl (pg_mt_md (by decide)) (hk_retz g1 rfl) hr
noncomputable def f94_80  (s : xS) : Option (xS × Int32) := f94_85 (1 : Int32) s
set_option maxRecDepth 20000 in
theorem s94_80 {sc : Option (Nat × (Nat → Int32))}  {s : xS} {o : xH × Option Value} {r : (xS × Int32)}  (h : f94_80  s = some r) (hr : dn94 o r) : Ev sc 1 94 [] 80 [none, none] [] (hk_of s) o := by
  unfold f94_80 at h
  refine E_blk rfl ?_
  refine E_ps 1 (pc' := 81) (l' := [none, none]) (st' := [.int (1 : Int32)]) rfl ?_
  refine E_j rfl rfl ?_
  exact E_wk (l' := [none, none]) trivial (s94_85  h hr)
noncomputable def f94 (x0 : Int64) (s : xS) : Option (xS × Int32) :=  if (lg_cmp x0 (1936292453 : Int64)) = 0 then (f94_80  s) else (if (lg_cmp x0 (482854663269 : Int64)) = 0 then (f94_80  s) else (if (lg_cmp x0 (7497060 : Int64)) = 0 then (f94_80  s) else (if (lg_cmp x0 (1936484720 : Int64)) = 0 then (f94_80  s) else (if (lg_cmp x0 (7102841 : Int64)) = 0 then (f94_80  s) else (if (lg_cmp x0 (28526 : Int64)) = 0 then (f94_80  s) else (if (lg_cmp x0 (1953854062 : Int64)) = 0 then (f94_80  s) else (if (lg_cmp x0 (25209 : Int64)) = 0 then (f94_80  s) else (if (lg_cmp x0 (126870957944933 : Int64)) = 0 then (f94_80  s) else (if (lg_cmp x0 (1684366704 : Int64)) = 0 then (f94_80  s) else (f94_85 (0 : Int32) s))))))))))
set_option maxRecDepth 20000 in
theorem s94 {sc : Option (Nat × (Nat → Int32))} {x0 : Int64} {s : xS} {r : xS × Int32} (h : f94 x0 s = some r) : Cl sc 1 94 [.long x0] (hk_of s) (hk_of r.1, some (.int r.2)) := by
  unfold f94 at h
  refine ⟨pg_md 94, [some (.long x0), none], pg_mt_md (by decide), rfl, rfl, ?_⟩
  generalize ho : ((hk_of r.1, some (Value.int r.2)) : xH × Option Value) = o
  have hr : dn94 o r := ho.symm
  refine E_blk rfl ?_
  refine E_ps 3 (pc' := 5) (l' := [some (.long x0), none]) (st' := [.int (lg_cmp x0 (1936292453 : Int64))]) rfl ?_
  by_cases c1 : (lg_cmp x0 (1936292453 : Int64)) = 0
  · rw [if_pos c1] at h
    refine E_jt rfl rfl c1 ?_
    exact E_wk (l' := [none, none]) trivial (s94_80  h hr)
  · rw [if_neg c1] at h
    refine E_jf rfl rfl c1 ?_
    refine E_blk rfl ?_
    refine E_ps 3 (pc' := 13) (l' := [some (.long x0), none]) (st' := [.int (lg_cmp x0 (482854663269 : Int64))]) rfl ?_
    by_cases c2 : (lg_cmp x0 (482854663269 : Int64)) = 0
    · rw [if_pos c2] at h
      refine E_jt rfl rfl c2 ?_
      exact E_wk (l' := [none, none]) trivial (s94_80  h hr)
    · rw [if_neg c2] at h
      refine E_jf rfl rfl c2 ?_
      refine E_blk rfl ?_
      refine E_ps 3 (pc' := 21) (l' := [some (.long x0), none]) (st' := [.int (lg_cmp x0 (7497060 : Int64))]) rfl ?_
      by_cases c3 : (lg_cmp x0 (7497060 : Int64)) = 0
      · rw [if_pos c3] at h
        refine E_jt rfl rfl c3 ?_
        exact E_wk (l' := [none, none]) trivial (s94_80  h hr)
      · rw [if_neg c3] at h
        refine E_jf rfl rfl c3 ?_
        refine E_blk rfl ?_
        refine E_ps 3 (pc' := 29) (l' := [some (.long x0), none]) (st' := [.int (lg_cmp x0 (1936484720 : Int64))]) rfl ?_
        by_cases c4 : (lg_cmp x0 (1936484720 : Int64)) = 0
        · rw [if_pos c4] at h
          refine E_jt rfl rfl c4 ?_
          exact E_wk (l' := [none, none]) trivial (s94_80  h hr)
        · rw [if_neg c4] at h
          refine E_jf rfl rfl c4 ?_
          refine E_blk rfl ?_
          refine E_ps 3 (pc' := 37) (l' := [some (.long x0), none]) (st' := [.int (lg_cmp x0 (7102841 : Int64))]) rfl ?_
          by_cases c5 : (lg_cmp x0 (7102841 : Int64)) = 0
          · rw [if_pos c5] at h
            refine E_jt rfl rfl c5 ?_
            exact E_wk (l' := [none, none]) trivial (s94_80  h hr)
          · rw [if_neg c5] at h
            refine E_jf rfl rfl c5 ?_
            refine E_blk rfl ?_
            refine E_ps 3 (pc' := 45) (l' := [some (.long x0), none]) (st' := [.int (lg_cmp x0 (28526 : Int64))]) rfl ?_
            by_cases c6 : (lg_cmp x0 (28526 : Int64)) = 0
            · rw [if_pos c6] at h
              refine E_jt rfl rfl c6 ?_
              exact E_wk (l' := [none, none]) trivial (s94_80  h hr)
            · rw [if_neg c6] at h
              refine E_jf rfl rfl c6 ?_
              refine E_blk rfl ?_
              refine E_ps 3 (pc' := 53) (l' := [some (.long x0), none]) (st' := [.int (lg_cmp x0 (1953854062 : Int64))]) rfl ?_
              by_cases c7 : (lg_cmp x0 (1953854062 : Int64)) = 0
              · rw [if_pos c7] at h
                refine E_jt rfl rfl c7 ?_
                exact E_wk (l' := [none, none]) trivial (s94_80  h hr)
              · rw [if_neg c7] at h
                refine E_jf rfl rfl c7 ?_
                refine E_blk rfl ?_
                refine E_ps 3 (pc' := 61) (l' := [some (.long x0), none]) (st' := [.int (lg_cmp x0 (25209 : Int64))]) rfl ?_
                by_cases c8 : (lg_cmp x0 (25209 : Int64)) = 0
                · rw [if_pos c8] at h
                  refine E_jt rfl rfl c8 ?_
                  exact E_wk (l' := [none, none]) trivial (s94_80  h hr)
                · rw [if_neg c8] at h
                  refine E_jf rfl rfl c8 ?_
                  refine E_blk rfl ?_
                  refine E_ps 3 (pc' := 69) (l' := [some (.long x0), none]) (st' := [.int (lg_cmp x0 (126870957944933 : Int64))]) rfl ?_
                  by_cases c9 : (lg_cmp x0 (126870957944933 : Int64)) = 0
                  · rw [if_pos c9] at h
                    refine E_jt rfl rfl c9 ?_
                    exact E_wk (l' := [none, none]) trivial (s94_80  h hr)
                  · rw [if_neg c9] at h
                    refine E_jf rfl rfl c9 ?_
                    refine E_blk rfl ?_
                    refine E_ps 3 (pc' := 77) (l' := [some (.long x0), none]) (st' := [.int (lg_cmp x0 (1684366704 : Int64))]) rfl ?_
                    by_cases c10 : (lg_cmp x0 (1684366704 : Int64)) = 0
                    · rw [if_pos c10] at h
                      refine E_jt rfl rfl c10 ?_
                      exact E_wk (l' := [none, none]) trivial (s94_80  h hr)
                    · rw [if_neg c10] at h
                      refine E_jf rfl rfl c10 ?_
                      refine E_blk rfl ?_
                      refine E_ps 1 (pc' := 85) (l' := [some (.long x0), none]) (st' := [.int (0 : Int32)]) rfl ?_
                      exact E_wk (l' := [none, none]) trivial (s94_85  h hr)

-- 85: ThreePlates$Tape.takeName()Z
def dn85 (o : xH × Option Value) (r : xS × Int32) : Prop := o = (hk_of r.1, some (.int r.2))
noncomputable def f85_18 (x0 : Nat) (s : xS) : Option (xS × Int32) := (f80 x0 s).bind fun z1 => ifg (z1.2 = 0 ∨ z1.2 = 1) <| some (z1.1, z1.2)
set_option maxRecDepth 20000 in
theorem s85_18 {sc : Option (Nat × (Nat → Int32))} {x0 : Nat} {s : xS} {o : xH × Option Value} {r : (xS × Int32)} (k0 : oK x0 8 = true) (h : f85_18 x0 s = some r) (hr : dn85 o r) : Ev sc 4 85 [] 18 [some (.ref x0)] [] (hk_of s) o := by
  unfold f85_18 at h
  refine E_blk rfl ?_
  refine E_ps 1 (pc' := 19) (l' := [some (.ref x0)]) (st' := [.ref x0]) rfl ?_
  obtain ⟨z1, e2, h⟩ := Option.bind_eq_some_iff.mp h
  refine E_callI (vs := [.ref x0]) (rest := []) rfl (by decide) rfl rfl (Nat.le_of_ble_eq_true rfl) (s80 e2) (by decide) ?_
  obtain ⟨g3, h⟩ := ifg_some h
  cases h
  exact E_ret rfl (pg_mt_md (by decide)) (hk_retz g3 rfl) hr
noncomputable def f85 (x0 : Nat) (s : xS) : Option (xS × Int32) := ifg (oK x0 8 = true) <| if (s.1 x0 5) = (1 : Int32) then ((f94 (s.2 x0 7) s).bind fun z2 => if z2.2 = 0 then ((pL z2.1 x0 10 (z2.1.2 x0 7)).bind fun t5 => (pI t5 x0 11 (t5.1 x0 6)).bind fun t7 => (f87 x0 t7).bind fun z9 => some (z9.1, (1 : Int32))) else (f85_18 x0 z2.1)) else (f85_18 x0 s)
set_option maxRecDepth 20000 in
theorem s85 {sc : Option (Nat × (Nat → Int32))} {x0 : Nat} {s : xS} {r : xS × Int32} (h : f85 x0 s = some r) : Cl sc 4 85 [.ref x0] (hk_of s) (hk_of r.1, some (.int r.2)) := by
  unfold f85 at h
  obtain ⟨k0, h⟩ := ifg_some h
  refine ⟨pg_md 85, [some (.ref x0)], pg_mt_md (by decide), (hk_rcv k0), rfl, ?_⟩
  generalize ho : ((hk_of r.1, some (Value.int r.2)) : xH × Option Value) = o
  have hr : dn85 o r := ho.symm
  refine E_blk rfl ?_
  refine E_ps 1 (pc' := 1) (l' := [some (.ref x0)]) (st' := [.ref x0]) rfl ?_
  refine E_gi k0 (by decide) rfl ?_
  refine E_ps 1 (pc' := 5) (l' := [some (.ref x0)]) (st' := [.int (1 : Int32), .int (s.1 x0 5)]) rfl ?_
  by_cases c1 : (s.1 x0 5) = (1 : Int32)
  · rw [if_pos c1] at h
    refine E_jt rfl rfl c1 ?_
    refine E_blk rfl ?_
    refine E_ps 1 (pc' := 9) (l' := [some (.ref x0)]) (st' := [.ref x0]) rfl ?_
    refine E_gl k0 (by decide) rfl ?_
    obtain ⟨z2, e3, h⟩ := Option.bind_eq_some_iff.mp h
    refine E_callI (vs := [.long (s.2 x0 7)]) (rest := []) rfl (by decide) rfl rfl (Nat.le_of_ble_eq_true rfl) (s94 e3) (by decide) ?_
    by_cases c4 : z2.2 = 0
    · rw [if_pos c4] at h
      refine E_jt rfl rfl c4 ?_
      refine E_blk rfl ?_
      refine E_ps 2 (pc' := 25) (l' := [some (.ref x0)]) (st' := [.ref x0, .ref x0]) rfl ?_
      refine E_gl k0 (by decide) rfl ?_
      obtain ⟨t5, e6, h⟩ := Option.bind_eq_some_iff.mp h
      refine E_pl k0 (by decide) rfl e6 ?_
      refine E_ps 2 (pc' := 33) (l' := [some (.ref x0)]) (st' := [.ref x0, .ref x0]) rfl ?_
      refine E_gi k0 (by decide) rfl ?_
      obtain ⟨t7, e8, h⟩ := Option.bind_eq_some_iff.mp h
      refine E_pi k0 (by decide) rfl e8 ?_
      refine E_ps 1 (pc' := 40) (l' := [some (.ref x0)]) (st' := [.ref x0]) rfl ?_
      obtain ⟨z9, e10, h⟩ := Option.bind_eq_some_iff.mp h
      refine E_callV (vs := [.ref x0]) (rest := []) rfl (by decide) rfl rfl (Nat.le_of_ble_eq_true rfl) (s87 e10) (by decide) ?_
      refine E_ps 1 (pc' := 44) (l' := [some (.ref x0)]) (st' := [.int (1 : Int32)]) rfl ?_
      cases h
      exact E_ret rfl (pg_mt_md (by decide)) rfl hr
    · rw [if_neg c4] at h
      refine E_jf rfl rfl c4 ?_
      exact E_wk (l' := [some (.ref x0)]) ⟨rfl, trivial⟩ (s85_18 k0 h hr)
  · rw [if_neg c1] at h
    refine E_jf rfl rfl c1 ?_
    exact E_wk (l' := [some (.ref x0)]) ⟨rfl, trivial⟩ (s85_18 k0 h hr)

-- 62: ThreePlates$Round.readPlates(LThreePlates$Tape;LThreePlates$Shop;)Z
def dn62 (o : xH × Option Value) (r : xS × Int32) : Prop := o = (hk_of r.1, some (.int r.2))
noncomputable def f62_17  (s : xS) : Option (xS × Int32) := some (s, (0 : Int32))
set_option maxRecDepth 20000 in
theorem s62_17 {sc : Option (Nat × (Nat → Int32))}  {s : xS} {o : xH × Option Value} {r : (xS × Int32)}  (h : f62_17  s = some r) (hr : dn62 o r) : Ev sc 5 62 [] 17 [none, none, none] [] (hk_of s) o := by
  unfold f62_17 at h
  refine E_blk rfl ?_
  refine E_ps 1 (pc' := 18) (l' := [none, none, none]) (st' := [.int (0 : Int32)]) rfl ?_
  cases h
  exact E_ret rfl (pg_mt_md (by decide)) rfl hr
noncomputable def f62_66  (s : xS) : Option (xS × Int32) := some (s, (0 : Int32))
set_option maxRecDepth 20000 in
theorem s62_66 {sc : Option (Nat × (Nat → Int32))}  {s : xS} {o : xH × Option Value} {r : (xS × Int32)}  (h : f62_66  s = some r) (hr : dn62 o r) : Ev sc 5 62 [] 66 [none, none, none] [] (hk_of s) o := by
  unfold f62_66 at h
  refine E_blk rfl ?_
  refine E_ps 1 (pc' := 67) (l' := [none, none, none]) (st' := [.int (0 : Int32)]) rfl ?_
  cases h
  exact E_ret rfl (pg_mt_md (by decide)) rfl hr
noncomputable def f62_99 (x1 : Nat) (s : xS) : Option (xS × Int32) := (f79 x1 (5 : Int32) (s.1 x1 11) s).bind fun z1 => ifg (z1.2 = 0 ∨ z1.2 = 1) <| some (z1.1, z1.2)
set_option maxRecDepth 20000 in
theorem s62_99 {sc : Option (Nat × (Nat → Int32))} {x1 : Nat} {s : xS} {o : xH × Option Value} {r : (xS × Int32)} (k1 : oK x1 8 = true) (h : f62_99 x1 s = some r) (hr : dn62 o r) : Ev sc 5 62 [] 99 [none, some (.ref x1), none] [] (hk_of s) o := by
  unfold f62_99 at h
  refine E_blk rfl ?_
  refine E_ps 3 (pc' := 102) (l' := [none, some (.ref x1), none]) (st' := [.ref x1, .int (5 : Int32), .ref x1]) rfl ?_
  refine E_gi k1 (by decide) rfl ?_
  obtain ⟨z1, e2, h⟩ := Option.bind_eq_some_iff.mp h
  refine E_callI (vs := [.ref x1, .int (5 : Int32), .int (s.1 x1 11)]) (rest := []) rfl (by decide) rfl rfl (Nat.le_of_ble_eq_true rfl) (s79 e2) (by decide) ?_
  obtain ⟨g3, h⟩ := ifg_some h
  cases h
  exact E_ret rfl (pg_mt_md (by decide)) (hk_retz g3 rfl) hr
noncomputable def f62 (x0 : Nat) (x1 : Nat) (x2 : Nat) (s : xS) : Option (xS × Int32) := ifg (oK x0 6 = true) <| ifg (oK x1 8 = true) <| ifg (oK x2 7 = true) <| (f83 x1 (7102841 : Int64) s).bind fun z1 => if z1.2 = 0 then (f62_17  z1.1) else ((f85 x1 z1.1).bind fun z4 => if z4.2 = 0 then (f62_17  z4.1) else ((f70 x2 (z4.1.2 x1 10) z4.1).bind fun z7 => (pI z7.1 x0 0 z7.2).bind fun t9 => if (t9.1 x0 0) = (-1 : Int32) then ((f79 x1 (5 : Int32) (t9.1 x1 11) t9).bind fun z12 => ifg (z12.2 = 0 ∨ z12.2 = 1) <| some (z12.1, z12.2)) else ((f83 x1 (28526 : Int64) t9).bind fun z15 => if z15.2 = 0 then (f62_66  z15.1) else ((f85 x1 z15.1).bind fun z18 => if z18.2 = 0 then (f62_66  z18.1) else ((f70 x2 (z18.1.2 x1 10) z18.1).bind fun z21 => (pI z21.1 x0 1 z21.2).bind fun t23 => if (t23.1 x0 1) = (-1 : Int32) then (f62_99 x1 t23) else (if (t23.1 x0 1) = (t23.1 x0 0) then (f62_99 x1 t23) else (some (t23, (1 : Int32)))))))))
set_option maxRecDepth 20000 in
theorem s62 {sc : Option (Nat × (Nat → Int32))} {x0 : Nat} {x1 : Nat} {x2 : Nat} {s : xS} {r : xS × Int32} (h : f62 x0 x1 x2 s = some r) : Cl sc 5 62 [.ref x0, .ref x1, .ref x2] (hk_of s) (hk_of r.1, some (.int r.2)) := by
  unfold f62 at h
  obtain ⟨k0, h⟩ := ifg_some h
  obtain ⟨k1, h⟩ := ifg_some h
  obtain ⟨k2, h⟩ := ifg_some h
  refine ⟨pg_md 62, [some (.ref x0), some (.ref x1), some (.ref x2)], pg_mt_md (by decide), (hk_rcv k0), rfl, ?_⟩
  generalize ho : ((hk_of r.1, some (Value.int r.2)) : xH × Option Value) = o
  have hr : dn62 o r := ho.symm
  refine E_blk rfl ?_
  refine E_ps 2 (pc' := 4) (l' := [some (.ref x0), some (.ref x1), some (.ref x2)]) (st' := [.long (7102841 : Int64), .ref x1]) rfl ?_
  obtain ⟨z1, e2, h⟩ := Option.bind_eq_some_iff.mp h
  refine E_callI (vs := [.ref x1, .long (7102841 : Int64)]) (rest := []) rfl (by decide) rfl rfl (Nat.le_of_ble_eq_true rfl) (s83 e2) (by decide) ?_
  by_cases c3 : z1.2 = 0
  · rw [if_pos c3] at h
    refine E_jt rfl rfl c3 ?_
    exact E_wk (l' := [none, none, none]) trivial (s62_17  h hr)
  · rw [if_neg c3] at h
    refine E_jf rfl rfl c3 ?_
    refine E_blk rfl ?_
    refine E_ps 1 (pc' := 11) (l' := [some (.ref x0), some (.ref x1), some (.ref x2)]) (st' := [.ref x1]) rfl ?_
    obtain ⟨z4, e5, h⟩ := Option.bind_eq_some_iff.mp h
    refine E_callI (vs := [.ref x1]) (rest := []) rfl (by decide) rfl rfl (Nat.le_of_ble_eq_true rfl) (s85 e5) (by decide) ?_
    by_cases c6 : z4.2 = 0
    · rw [if_pos c6] at h
      refine E_jt rfl rfl c6 ?_
      exact E_wk (l' := [none, none, none]) trivial (s62_17  h hr)
    · rw [if_neg c6] at h
      refine E_jf rfl rfl c6 ?_
      refine E_blk rfl ?_
      refine E_ps 3 (pc' := 22) (l' := [some (.ref x0), some (.ref x1), some (.ref x2)]) (st' := [.ref x1, .ref x2, .ref x0]) rfl ?_
      refine E_gl k1 (by decide) rfl ?_
      obtain ⟨z7, e8, h⟩ := Option.bind_eq_some_iff.mp h
      refine E_callI (vs := [.ref x2, .long (z4.1.2 x1 10)]) (rest := [.ref x0]) rfl (by decide) rfl rfl (Nat.le_of_ble_eq_true rfl) (s70 e8) (by decide) ?_
      obtain ⟨t9, e10, h⟩ := Option.bind_eq_some_iff.mp h
      refine E_pi k0 (by decide) rfl e10 ?_
      refine E_ps 1 (pc' := 32) (l' := [some (.ref x0), some (.ref x1), some (.ref x2)]) (st' := [.ref x0]) rfl ?_
      refine E_gi k0 (by decide) rfl ?_
      refine E_ps 1 (pc' := 36) (l' := [some (.ref x0), some (.ref x1), some (.ref x2)]) (st' := [.int (-1 : Int32), .int (t9.1 x0 0)]) rfl ?_
      by_cases c11 : (t9.1 x0 0) = (-1 : Int32)
      · rw [if_pos c11] at h
        refine E_jt rfl rfl c11 ?_
        refine E_blk rfl ?_
        refine E_ps 3 (pc' := 42) (l' := [some (.ref x0), some (.ref x1), some (.ref x2)]) (st' := [.ref x1, .int (5 : Int32), .ref x1]) rfl ?_
        refine E_gi k1 (by decide) rfl ?_
        obtain ⟨z12, e13, h⟩ := Option.bind_eq_some_iff.mp h
        refine E_callI (vs := [.ref x1, .int (5 : Int32), .int (t9.1 x1 11)]) (rest := []) rfl (by decide) rfl rfl (Nat.le_of_ble_eq_true rfl) (s79 e13) (by decide) ?_
        obtain ⟨g14, h⟩ := ifg_some h
        cases h
        exact E_ret rfl (pg_mt_md (by decide)) (hk_retz g14 rfl) hr
      · rw [if_neg c11] at h
        refine E_jf rfl rfl c11 ?_
        refine E_blk rfl ?_
        refine E_ps 2 (pc' := 53) (l' := [some (.ref x0), some (.ref x1), some (.ref x2)]) (st' := [.long (28526 : Int64), .ref x1]) rfl ?_
        obtain ⟨z15, e16, h⟩ := Option.bind_eq_some_iff.mp h
        refine E_callI (vs := [.ref x1, .long (28526 : Int64)]) (rest := []) rfl (by decide) rfl rfl (Nat.le_of_ble_eq_true rfl) (s83 e16) (by decide) ?_
        by_cases c17 : z15.2 = 0
        · rw [if_pos c17] at h
          refine E_jt rfl rfl c17 ?_
          exact E_wk (l' := [none, none, none]) trivial (s62_66  h hr)
        · rw [if_neg c17] at h
          refine E_jf rfl rfl c17 ?_
          refine E_blk rfl ?_
          refine E_ps 1 (pc' := 60) (l' := [some (.ref x0), some (.ref x1), some (.ref x2)]) (st' := [.ref x1]) rfl ?_
          obtain ⟨z18, e19, h⟩ := Option.bind_eq_some_iff.mp h
          refine E_callI (vs := [.ref x1]) (rest := []) rfl (by decide) rfl rfl (Nat.le_of_ble_eq_true rfl) (s85 e19) (by decide) ?_
          by_cases c20 : z18.2 = 0
          · rw [if_pos c20] at h
            refine E_jt rfl rfl c20 ?_
            exact E_wk (l' := [none, none, none]) trivial (s62_66  h hr)
          · rw [if_neg c20] at h
            refine E_jf rfl rfl c20 ?_
            refine E_blk rfl ?_
            refine E_ps 3 (pc' := 71) (l' := [some (.ref x0), some (.ref x1), some (.ref x2)]) (st' := [.ref x1, .ref x2, .ref x0]) rfl ?_
            refine E_gl k1 (by decide) rfl ?_
            obtain ⟨z21, e22, h⟩ := Option.bind_eq_some_iff.mp h
            refine E_callI (vs := [.ref x2, .long (z18.1.2 x1 10)]) (rest := [.ref x0]) rfl (by decide) rfl rfl (Nat.le_of_ble_eq_true rfl) (s70 e22) (by decide) ?_
            obtain ⟨t23, e24, h⟩ := Option.bind_eq_some_iff.mp h
            refine E_pi k0 (by decide) rfl e24 ?_
            refine E_ps 1 (pc' := 81) (l' := [some (.ref x0), some (.ref x1), some (.ref x2)]) (st' := [.ref x0]) rfl ?_
            refine E_gi k0 (by decide) rfl ?_
            refine E_ps 1 (pc' := 85) (l' := [some (.ref x0), some (.ref x1), some (.ref x2)]) (st' := [.int (-1 : Int32), .int (t23.1 x0 1)]) rfl ?_
            by_cases c25 : (t23.1 x0 1) = (-1 : Int32)
            · rw [if_pos c25] at h
              refine E_jt rfl rfl c25 ?_
              exact E_wk (l' := [none, some (.ref x1), none]) ⟨rfl, trivial⟩ (s62_99 k1 h hr)
            · rw [if_neg c25] at h
              refine E_jf rfl rfl c25 ?_
              refine E_blk rfl ?_
              refine E_ps 1 (pc' := 89) (l' := [some (.ref x0), some (.ref x1), some (.ref x2)]) (st' := [.ref x0]) rfl ?_
              refine E_gi k0 (by decide) rfl ?_
              refine E_ps 1 (pc' := 93) (l' := [some (.ref x0), some (.ref x1), some (.ref x2)]) (st' := [.ref x0, .int (t23.1 x0 1)]) rfl ?_
              refine E_gi k0 (by decide) rfl ?_
              by_cases c26 : (t23.1 x0 1) = (t23.1 x0 0)
              · rw [if_pos c26] at h
                refine E_jt rfl rfl c26 ?_
                exact E_wk (l' := [none, some (.ref x1), none]) ⟨rfl, trivial⟩ (s62_99 k1 h hr)
              · rw [if_neg c26] at h
                refine E_jf rfl rfl c26 ?_
                refine E_blk rfl ?_
                refine E_ps 1 (pc' := 110) (l' := [some (.ref x0), some (.ref x1), some (.ref x2)]) (st' := [.int (1 : Int32)]) rfl ?_
                cases h
                exact E_ret rfl (pg_mt_md (by decide)) rfl hr

-- 86: ThreePlates$Tape.takeNumber(ZII)Z
def dn86 (o : xH × Option Value) (r : xS × Int32) : Prop := o = (hk_of r.1, some (.int r.2))
noncomputable def f86_68 (x0 : Nat) (x4 : Int32) (s : xS) : Option (xS × Int32) := (f79 x0 (4 : Int32) x4 s).bind fun z1 => ifg (z1.2 = 0 ∨ z1.2 = 1) <| some (z1.1, z1.2)
set_option maxRecDepth 20000 in
theorem s86_68 {sc : Option (Nat × (Nat → Int32))} {x0 : Nat} {x4 : Int32} {s : xS} {o : xH × Option Value} {r : (xS × Int32)} (k0 : oK x0 8 = true) (h : f86_68 x0 x4 s = some r) (hr : dn86 o r) : Ev sc 4 86 [] 68 [some (.ref x0), none, none, none, some (.int x4), none] [] (hk_of s) o := by
  unfold f86_68 at h
  refine E_blk rfl ?_
  refine E_ps 3 (pc' := 72) (l' := [some (.ref x0), none, none, none, some (.int x4), none]) (st' := [.int x4, .int (4 : Int32), .ref x0]) rfl ?_
  obtain ⟨z1, e2, h⟩ := Option.bind_eq_some_iff.mp h
  refine E_callI (vs := [.ref x0, .int (4 : Int32), .int x4]) (rest := []) rfl (by decide) rfl rfl (Nat.le_of_ble_eq_true rfl) (s79 e2) (by decide) ?_
  obtain ⟨g3, h⟩ := ifg_some h
  cases h
  exact E_ret rfl (pg_mt_md (by decide)) (hk_retz g3 rfl) hr
noncomputable def f86_28 (x0 : Nat) (x2 : Int32) (x3 : Int32) (x4 : Int32) (x5 : Int32) (s : xS) : Option (xS × Int32) := if (s.1 x0 5) = (2 : Int32) then ((pI s x0 9 (x5 * (s.1 x0 8))).bind fun t2 => if (t2.1 x0 9) < x2 then (f86_68 x0 x4 t2) else (if (t2.1 x0 9) ≤ x3 then ((f87 x0 t2).bind fun z6 => some (z6.1, (1 : Int32))) else (f86_68 x0 x4 t2))) else ((f80 x0 s).bind fun z8 => ifg (z8.2 = 0 ∨ z8.2 = 1) <| some (z8.1, z8.2))
set_option maxRecDepth 20000 in
theorem s86_28 {sc : Option (Nat × (Nat → Int32))} {x0 : Nat} {x2 : Int32} {x3 : Int32} {x4 : Int32} {x5 : Int32} {s : xS} {o : xH × Option Value} {r : (xS × Int32)} (k0 : oK x0 8 = true) (h : f86_28 x0 x2 x3 x4 x5 s = some r) (hr : dn86 o r) : Ev sc 4 86 [] 28 [some (.ref x0), none, some (.int x2), some (.int x3), some (.int x4), some (.int x5)] [] (hk_of s) o := by
  unfold f86_28 at h
  refine E_blk rfl ?_
  refine E_ps 1 (pc' := 29) (l' := [some (.ref x0), none, some (.int x2), some (.int x3), some (.int x4), some (.int x5)]) (st' := [.ref x0]) rfl ?_
  refine E_gi k0 (by decide) rfl ?_
  refine E_ps 1 (pc' := 33) (l' := [some (.ref x0), none, some (.int x2), some (.int x3), some (.int x4), some (.int x5)]) (st' := [.int (2 : Int32), .int (s.1 x0 5)]) rfl ?_
  by_cases c1 : (s.1 x0 5) = (2 : Int32)
  · rw [if_pos c1] at h
    refine E_jt rfl rfl c1 ?_
    refine E_blk rfl ?_
    refine E_ps 3 (pc' := 45) (l' := [some (.ref x0), none, some (.int x2), some (.int x3), some (.int x4), some (.int x5)]) (st' := [.ref x0, .int x5, .ref x0]) rfl ?_
    refine E_gi k0 (by decide) rfl ?_
    refine E_ps 1 (pc' := 49) (l' := [some (.ref x0), none, some (.int x2), some (.int x3), some (.int x4), some (.int x5)]) (st' := [.int (x5 * (s.1 x0 8)), .ref x0]) rfl ?_
    obtain ⟨t2, e3, h⟩ := Option.bind_eq_some_iff.mp h
    refine E_pi k0 (by decide) rfl e3 ?_
    refine E_ps 1 (pc' := 53) (l' := [some (.ref x0), none, some (.int x2), some (.int x3), some (.int x4), some (.int x5)]) (st' := [.ref x0]) rfl ?_
    refine E_gi k0 (by decide) rfl ?_
    refine E_ps 1 (pc' := 57) (l' := [some (.ref x0), none, some (.int x2), some (.int x3), some (.int x4), some (.int x5)]) (st' := [.int x2, .int (t2.1 x0 9)]) rfl ?_
    by_cases c4 : (t2.1 x0 9) < x2
    · rw [if_pos c4] at h
      refine E_jt rfl rfl c4 ?_
      exact E_wk (l' := [some (.ref x0), none, none, none, some (.int x4), none]) ⟨rfl, rfl, trivial⟩ (s86_68 k0 h hr)
    · rw [if_neg c4] at h
      refine E_jf rfl rfl c4 ?_
      refine E_blk rfl ?_
      refine E_ps 1 (pc' := 61) (l' := [some (.ref x0), none, some (.int x2), some (.int x3), some (.int x4), some (.int x5)]) (st' := [.ref x0]) rfl ?_
      refine E_gi k0 (by decide) rfl ?_
      refine E_ps 1 (pc' := 65) (l' := [some (.ref x0), none, some (.int x2), some (.int x3), some (.int x4), some (.int x5)]) (st' := [.int x3, .int (t2.1 x0 9)]) rfl ?_
      by_cases c5 : (t2.1 x0 9) ≤ x3
      · rw [if_pos c5] at h
        refine E_jt rfl rfl c5 ?_
        refine E_blk rfl ?_
        refine E_ps 1 (pc' := 77) (l' := [some (.ref x0), none, some (.int x2), some (.int x3), some (.int x4), some (.int x5)]) (st' := [.ref x0]) rfl ?_
        obtain ⟨z6, e7, h⟩ := Option.bind_eq_some_iff.mp h
        refine E_callV (vs := [.ref x0]) (rest := []) rfl (by decide) rfl rfl (Nat.le_of_ble_eq_true rfl) (s87 e7) (by decide) ?_
        refine E_ps 1 (pc' := 81) (l' := [some (.ref x0), none, some (.int x2), some (.int x3), some (.int x4), some (.int x5)]) (st' := [.int (1 : Int32)]) rfl ?_
        cases h
        exact E_ret rfl (pg_mt_md (by decide)) rfl hr
      · rw [if_neg c5] at h
        refine E_jf rfl rfl c5 ?_
        exact E_wk (l' := [some (.ref x0), none, none, none, some (.int x4), none]) ⟨rfl, rfl, trivial⟩ (s86_68 k0 h hr)
  · rw [if_neg c1] at h
    refine E_jf rfl rfl c1 ?_
    refine E_blk rfl ?_
    refine E_ps 1 (pc' := 37) (l' := [some (.ref x0), none, some (.int x2), some (.int x3), some (.int x4), some (.int x5)]) (st' := [.ref x0]) rfl ?_
    obtain ⟨z8, e9, h⟩ := Option.bind_eq_some_iff.mp h
    refine E_callI (vs := [.ref x0]) (rest := []) rfl (by decide) rfl rfl (Nat.le_of_ble_eq_true rfl) (s80 e9) (by decide) ?_
    obtain ⟨g10, h⟩ := ifg_some h
    cases h
    exact E_ret rfl (pg_mt_md (by decide)) (hk_retz g10 rfl) hr
noncomputable def f86 (x0 : Nat) (x1 : Int32) (x2 : Int32) (x3 : Int32) (s : xS) : Option (xS × Int32) := ifg (oK x0 8 = true) <| if x1 = 0 then (f86_28 x0 x2 x3 (s.1 x0 6) (1 : Int32) s) else (if (s.1 x0 5) = (4 : Int32) then ((f87 x0 s).bind fun z3 => f86_28 x0 x2 x3 (s.1 x0 6) (-1 : Int32) z3.1) else (f86_28 x0 x2 x3 (s.1 x0 6) (1 : Int32) s))
set_option maxRecDepth 20000 in
theorem s86 {sc : Option (Nat × (Nat → Int32))} {x0 : Nat} {x1 : Int32} {x2 : Int32} {x3 : Int32} {s : xS} {r : xS × Int32} (h : f86 x0 x1 x2 x3 s = some r) : Cl sc 4 86 [.ref x0, .int x1, .int x2, .int x3] (hk_of s) (hk_of r.1, some (.int r.2)) := by
  unfold f86 at h
  obtain ⟨k0, h⟩ := ifg_some h
  refine ⟨pg_md 86, [some (.ref x0), some (.int x1), some (.int x2), some (.int x3), none, none], pg_mt_md (by decide), (hk_rcv k0), rfl, ?_⟩
  generalize ho : ((hk_of r.1, some (Value.int r.2)) : xH × Option Value) = o
  have hr : dn86 o r := ho.symm
  refine E_blk rfl ?_
  refine E_ps 1 (pc' := 1) (l' := [some (.ref x0), some (.int x1), some (.int x2), some (.int x3), none, none]) (st' := [.ref x0]) rfl ?_
  refine E_gi k0 (by decide) rfl ?_
  refine E_ps 4 (pc' := 10) (l' := [some (.ref x0), some (.int x1), some (.int x2), some (.int x3), some (.int (s.1 x0 6)), some (.int (1 : Int32))]) (st' := [.int x1]) rfl ?_
  by_cases c1 : x1 = 0
  · rw [if_pos c1] at h
    refine E_jt rfl rfl c1 ?_
    exact E_wk (l' := [some (.ref x0), none, some (.int x2), some (.int x3), some (.int (s.1 x0 6)), some (.int (1 : Int32))]) ⟨rfl, rfl, rfl, rfl, rfl, trivial⟩ (s86_28 k0 h hr)
  · rw [if_neg c1] at h
    refine E_jf rfl rfl c1 ?_
    refine E_blk rfl ?_
    refine E_ps 1 (pc' := 14) (l' := [some (.ref x0), some (.int x1), some (.int x2), some (.int x3), some (.int (s.1 x0 6)), some (.int (1 : Int32))]) (st' := [.ref x0]) rfl ?_
    refine E_gi k0 (by decide) rfl ?_
    refine E_ps 1 (pc' := 18) (l' := [some (.ref x0), some (.int x1), some (.int x2), some (.int x3), some (.int (s.1 x0 6)), some (.int (1 : Int32))]) (st' := [.int (4 : Int32), .int (s.1 x0 5)]) rfl ?_
    by_cases c2 : (s.1 x0 5) = (4 : Int32)
    · rw [if_pos c2] at h
      refine E_jt rfl rfl c2 ?_
      refine E_blk rfl ?_
      refine E_ps 3 (pc' := 25) (l' := [some (.ref x0), some (.int x1), some (.int x2), some (.int x3), some (.int (s.1 x0 6)), some (.int (-1 : Int32))]) (st' := [.ref x0]) rfl ?_
      obtain ⟨z3, e4, h⟩ := Option.bind_eq_some_iff.mp h
      refine E_callV (vs := [.ref x0]) (rest := []) rfl (by decide) rfl rfl (Nat.le_of_ble_eq_true rfl) (s87 e4) (by decide) ?_
      exact E_wk (l' := [some (.ref x0), none, some (.int x2), some (.int x3), some (.int (s.1 x0 6)), some (.int (-1 : Int32))]) ⟨rfl, rfl, rfl, rfl, rfl, trivial⟩ (s86_28 k0 h hr)
    · rw [if_neg c2] at h
      refine E_jf rfl rfl c2 ?_
      exact E_wk (l' := [some (.ref x0), none, some (.int x2), some (.int x3), some (.int (s.1 x0 6)), some (.int (1 : Int32))]) ⟨rfl, rfl, rfl, rfl, rfl, trivial⟩ (s86_28 k0 h hr)

-- 63: ThreePlates$Round.readPlace(LThreePlates$Tape;)Z
def dn63 (o : xH × Option Value) (r : xS × Int32) : Prop := o = (hk_of r.1, some (.int r.2))
noncomputable def f63_72  (s : xS) : Option (xS × Int32) := some (s, (0 : Int32))
set_option maxRecDepth 20000 in
theorem s63_72 {sc : Option (Nat × (Nat → Int32))}  {s : xS} {o : xH × Option Value} {r : (xS × Int32)}  (h : f63_72  s = some r) (hr : dn63 o r) : Ev sc 5 63 [] 72 [none, none] [] (hk_of s) o := by
  unfold f63_72 at h
  refine E_blk rfl ?_
  refine E_ps 1 (pc' := 73) (l' := [none, none]) (st' := [.int (0 : Int32)]) rfl ?_
  cases h
  exact E_ret rfl (pg_mt_md (by decide)) rfl hr
noncomputable def f63_20  (s : xS) : Option (xS × Int32) := some (s, (0 : Int32))
set_option maxRecDepth 20000 in
theorem s63_20 {sc : Option (Nat × (Nat → Int32))}  {s : xS} {o : xH × Option Value} {r : (xS × Int32)}  (h : f63_20  s = some r) (hr : dn63 o r) : Ev sc 5 63 [] 20 [none, none] [] (hk_of s) o := by
  unfold f63_20 at h
  refine E_blk rfl ?_
  refine E_ps 1 (pc' := 21) (l' := [none, none]) (st' := [.int (0 : Int32)]) rfl ?_
  cases h
  exact E_ret rfl (pg_mt_md (by decide)) rfl hr
noncomputable def f63 (x0 : Nat) (x1 : Nat) (s : xS) : Option (xS × Int32) := ifg (oK x0 6 = true) <| ifg (oK x1 8 = true) <| (f83 x1 (1953854062 : Int64) s).bind fun z1 => if z1.2 = 0 then (f63_20  z1.1) else ((f86 x1 (0 : Int32) (0 : Int32) (3 : Int32) z1.1).bind fun z4 => if z4.2 = 0 then (f63_20  z4.1) else ((pI z4.1 x0 2 (z4.1.1 x1 9)).bind fun t7 => (pI t7 x0 3 (0 : Int32)).bind fun t9 => (pI t9 x0 4 (0 : Int32)).bind fun t11 => (f82 x1 (25209 : Int64) t11).bind fun z13 => if z13.2 = 0 then (some (z13.1, (1 : Int32))) else ((f83 x1 (25209 : Int64) z13.1).bind fun z16 => if z16.2 = 0 then (f63_72  z16.1) else ((f86 x1 (1 : Int32) (-1 : Int32) (1 : Int32) z16.1).bind fun z19 => if z19.2 = 0 then (f63_72  z19.1) else ((pI z19.1 x0 3 (z19.1.1 x1 9)).bind fun t22 => (f86 x1 (1 : Int32) (-1 : Int32) (1 : Int32) t22).bind fun z24 => if z24.2 = 0 then (some (z24.1, (0 : Int32))) else ((pI z24.1 x0 4 (z24.1.1 x1 9)).bind fun t27 => some (t27, (1 : Int32))))))))
set_option maxRecDepth 20000 in
theorem s63 {sc : Option (Nat × (Nat → Int32))} {x0 : Nat} {x1 : Nat} {s : xS} {r : xS × Int32} (h : f63 x0 x1 s = some r) : Cl sc 5 63 [.ref x0, .ref x1] (hk_of s) (hk_of r.1, some (.int r.2)) := by
  unfold f63 at h
  obtain ⟨k0, h⟩ := ifg_some h
  obtain ⟨k1, h⟩ := ifg_some h
  refine ⟨pg_md 63, [some (.ref x0), some (.ref x1)], pg_mt_md (by decide), (hk_rcv k0), rfl, ?_⟩
  generalize ho : ((hk_of r.1, some (Value.int r.2)) : xH × Option Value) = o
  have hr : dn63 o r := ho.symm
  refine E_blk rfl ?_
  refine E_ps 2 (pc' := 4) (l' := [some (.ref x0), some (.ref x1)]) (st' := [.long (1953854062 : Int64), .ref x1]) rfl ?_
  obtain ⟨z1, e2, h⟩ := Option.bind_eq_some_iff.mp h
  refine E_callI (vs := [.ref x1, .long (1953854062 : Int64)]) (rest := []) rfl (by decide) rfl rfl (Nat.le_of_ble_eq_true rfl) (s83 e2) (by decide) ?_
  by_cases c3 : z1.2 = 0
  · rw [if_pos c3] at h
    refine E_jt rfl rfl c3 ?_
    exact E_wk (l' := [none, none]) trivial (s63_20  h hr)
  · rw [if_neg c3] at h
    refine E_jf rfl rfl c3 ?_
    refine E_blk rfl ?_
    refine E_ps 4 (pc' := 14) (l' := [some (.ref x0), some (.ref x1)]) (st' := [.int (3 : Int32), .int (0 : Int32), .int (0 : Int32), .ref x1]) rfl ?_
    obtain ⟨z4, e5, h⟩ := Option.bind_eq_some_iff.mp h
    refine E_callI (vs := [.ref x1, .int (0 : Int32), .int (0 : Int32), .int (3 : Int32)]) (rest := []) rfl (by decide) rfl rfl (Nat.le_of_ble_eq_true rfl) (s86 e5) (by decide) ?_
    by_cases c6 : z4.2 = 0
    · rw [if_pos c6] at h
      refine E_jt rfl rfl c6 ?_
      exact E_wk (l' := [none, none]) trivial (s63_20  h hr)
    · rw [if_neg c6] at h
      refine E_jf rfl rfl c6 ?_
      refine E_blk rfl ?_
      refine E_ps 2 (pc' := 24) (l' := [some (.ref x0), some (.ref x1)]) (st' := [.ref x1, .ref x0]) rfl ?_
      refine E_gi k1 (by decide) rfl ?_
      obtain ⟨t7, e8, h⟩ := Option.bind_eq_some_iff.mp h
      refine E_pi k0 (by decide) rfl e8 ?_
      refine E_ps 2 (pc' := 32) (l' := [some (.ref x0), some (.ref x1)]) (st' := [.int (0 : Int32), .ref x0]) rfl ?_
      obtain ⟨t9, e10, h⟩ := Option.bind_eq_some_iff.mp h
      refine E_pi k0 (by decide) rfl e10 ?_
      refine E_ps 2 (pc' := 37) (l' := [some (.ref x0), some (.ref x1)]) (st' := [.int (0 : Int32), .ref x0]) rfl ?_
      obtain ⟨t11, e12, h⟩ := Option.bind_eq_some_iff.mp h
      refine E_pi k0 (by decide) rfl e12 ?_
      refine E_ps 2 (pc' := 44) (l' := [some (.ref x0), some (.ref x1)]) (st' := [.long (25209 : Int64), .ref x1]) rfl ?_
      obtain ⟨z13, e14, h⟩ := Option.bind_eq_some_iff.mp h
      refine E_callI (vs := [.ref x1, .long (25209 : Int64)]) (rest := []) rfl (by decide) rfl rfl (Nat.le_of_ble_eq_true rfl) (s82 e14) (by decide) ?_
      by_cases c15 : z13.2 = 0
      · rw [if_pos c15] at h
        refine E_jt rfl rfl c15 ?_
        refine E_blk rfl ?_
        refine E_ps 1 (pc' := 51) (l' := [some (.ref x0), some (.ref x1)]) (st' := [.int (1 : Int32)]) rfl ?_
        cases h
        exact E_ret rfl (pg_mt_md (by decide)) rfl hr
      · rw [if_neg c15] at h
        refine E_jf rfl rfl c15 ?_
        refine E_blk rfl ?_
        refine E_ps 2 (pc' := 56) (l' := [some (.ref x0), some (.ref x1)]) (st' := [.long (25209 : Int64), .ref x1]) rfl ?_
        obtain ⟨z16, e17, h⟩ := Option.bind_eq_some_iff.mp h
        refine E_callI (vs := [.ref x1, .long (25209 : Int64)]) (rest := []) rfl (by decide) rfl rfl (Nat.le_of_ble_eq_true rfl) (s83 e17) (by decide) ?_
        by_cases c18 : z16.2 = 0
        · rw [if_pos c18] at h
          refine E_jt rfl rfl c18 ?_
          exact E_wk (l' := [none, none]) trivial (s63_72  h hr)
        · rw [if_neg c18] at h
          refine E_jf rfl rfl c18 ?_
          refine E_blk rfl ?_
          refine E_ps 4 (pc' := 66) (l' := [some (.ref x0), some (.ref x1)]) (st' := [.int (1 : Int32), .int (-1 : Int32), .int (1 : Int32), .ref x1]) rfl ?_
          obtain ⟨z19, e20, h⟩ := Option.bind_eq_some_iff.mp h
          refine E_callI (vs := [.ref x1, .int (1 : Int32), .int (-1 : Int32), .int (1 : Int32)]) (rest := []) rfl (by decide) rfl rfl (Nat.le_of_ble_eq_true rfl) (s86 e20) (by decide) ?_
          by_cases c21 : z19.2 = 0
          · rw [if_pos c21] at h
            refine E_jt rfl rfl c21 ?_
            exact E_wk (l' := [none, none]) trivial (s63_72  h hr)
          · rw [if_neg c21] at h
            refine E_jf rfl rfl c21 ?_
            refine E_blk rfl ?_
            refine E_ps 2 (pc' := 76) (l' := [some (.ref x0), some (.ref x1)]) (st' := [.ref x1, .ref x0]) rfl ?_
            refine E_gi k1 (by decide) rfl ?_
            obtain ⟨t22, e23, h⟩ := Option.bind_eq_some_iff.mp h
            refine E_pi k0 (by decide) rfl e23 ?_
            refine E_ps 4 (pc' := 86) (l' := [some (.ref x0), some (.ref x1)]) (st' := [.int (1 : Int32), .int (-1 : Int32), .int (1 : Int32), .ref x1]) rfl ?_
            obtain ⟨z24, e25, h⟩ := Option.bind_eq_some_iff.mp h
            refine E_callI (vs := [.ref x1, .int (1 : Int32), .int (-1 : Int32), .int (1 : Int32)]) (rest := []) rfl (by decide) rfl rfl (Nat.le_of_ble_eq_true rfl) (s86 e25) (by decide) ?_
            by_cases c26 : z24.2 = 0
            · rw [if_pos c26] at h
              refine E_jt rfl rfl c26 ?_
              refine E_blk rfl ?_
              refine E_ps 1 (pc' := 93) (l' := [some (.ref x0), some (.ref x1)]) (st' := [.int (0 : Int32)]) rfl ?_
              cases h
              exact E_ret rfl (pg_mt_md (by decide)) rfl hr
            · rw [if_neg c26] at h
              refine E_jf rfl rfl c26 ?_
              refine E_blk rfl ?_
              refine E_ps 2 (pc' := 96) (l' := [some (.ref x0), some (.ref x1)]) (st' := [.ref x1, .ref x0]) rfl ?_
              refine E_gi k1 (by decide) rfl ?_
              obtain ⟨t27, e28, h⟩ := Option.bind_eq_some_iff.mp h
              refine E_pi k0 (by decide) rfl e28 ?_
              refine E_ps 1 (pc' := 103) (l' := [some (.ref x0), some (.ref x1)]) (st' := [.int (1 : Int32)]) rfl ?_
              cases h
              exact E_ret rfl (pg_mt_md (by decide)) rfl hr

-- 84: ThreePlates$Tape.takeStop()Z
def dn84 (o : xH × Option Value) (r : xS × Int32) : Prop := o = (hk_of r.1, some (.int r.2))
noncomputable def f84 (x0 : Nat) (s : xS) : Option (xS × Int32) := ifg (oK x0 8 = true) <| if (s.1 x0 5) = (3 : Int32) then ((f87 x0 s).bind fun z2 => some (z2.1, (1 : Int32))) else ((f80 x0 s).bind fun z4 => ifg (z4.2 = 0 ∨ z4.2 = 1) <| some (z4.1, z4.2))
set_option maxRecDepth 20000 in
theorem s84 {sc : Option (Nat × (Nat → Int32))} {x0 : Nat} {s : xS} {r : xS × Int32} (h : f84 x0 s = some r) : Cl sc 4 84 [.ref x0] (hk_of s) (hk_of r.1, some (.int r.2)) := by
  unfold f84 at h
  obtain ⟨k0, h⟩ := ifg_some h
  refine ⟨pg_md 84, [some (.ref x0)], pg_mt_md (by decide), (hk_rcv k0), rfl, ?_⟩
  generalize ho : ((hk_of r.1, some (Value.int r.2)) : xH × Option Value) = o
  have hr : dn84 o r := ho.symm
  refine E_blk rfl ?_
  refine E_ps 1 (pc' := 1) (l' := [some (.ref x0)]) (st' := [.ref x0]) rfl ?_
  refine E_gi k0 (by decide) rfl ?_
  refine E_ps 1 (pc' := 5) (l' := [some (.ref x0)]) (st' := [.int (3 : Int32), .int (s.1 x0 5)]) rfl ?_
  by_cases c1 : (s.1 x0 5) = (3 : Int32)
  · rw [if_pos c1] at h
    refine E_jt rfl rfl c1 ?_
    refine E_blk rfl ?_
    refine E_ps 1 (pc' := 14) (l' := [some (.ref x0)]) (st' := [.ref x0]) rfl ?_
    obtain ⟨z2, e3, h⟩ := Option.bind_eq_some_iff.mp h
    refine E_callV (vs := [.ref x0]) (rest := []) rfl (by decide) rfl rfl (Nat.le_of_ble_eq_true rfl) (s87 e3) (by decide) ?_
    refine E_ps 1 (pc' := 18) (l' := [some (.ref x0)]) (st' := [.int (1 : Int32)]) rfl ?_
    cases h
    exact E_ret rfl (pg_mt_md (by decide)) rfl hr
  · rw [if_neg c1] at h
    refine E_jf rfl rfl c1 ?_
    refine E_blk rfl ?_
    refine E_ps 1 (pc' := 9) (l' := [some (.ref x0)]) (st' := [.ref x0]) rfl ?_
    obtain ⟨z4, e5, h⟩ := Option.bind_eq_some_iff.mp h
    refine E_callI (vs := [.ref x0]) (rest := []) rfl (by decide) rfl rfl (Nat.le_of_ble_eq_true rfl) (s80 e5) (by decide) ?_
    obtain ⟨g6, h⟩ := ifg_some h
    cases h
    exact E_ret rfl (pg_mt_md (by decide)) (hk_retz g6 rfl) hr

-- 64: ThreePlates$Round.readScrape(LThreePlates$Tape;LThreePlates$Shop;)Z
def dn64 (o : xH × Option Value) (r : xS × Int32) : Prop := o = (hk_of r.1, some (.int r.2))
noncomputable def f64_17  (s : xS) : Option (xS × Int32) := some (s, (0 : Int32))
set_option maxRecDepth 20000 in
theorem s64_17 {sc : Option (Nat × (Nat → Int32))}  {s : xS} {o : xH × Option Value} {r : (xS × Int32)}  (h : f64_17  s = some r) (hr : dn64 o r) : Ev sc 5 64 [] 17 [none, none, none] [] (hk_of s) o := by
  unfold f64_17 at h
  refine E_blk rfl ?_
  refine E_ps 1 (pc' := 18) (l' := [none, none, none]) (st' := [.int (0 : Int32)]) rfl ?_
  cases h
  exact E_ret rfl (pg_mt_md (by decide)) rfl hr
noncomputable def f64_84  (s : xS) : Option (xS × Int32) := some (s, (0 : Int32))
set_option maxRecDepth 20000 in
theorem s64_84 {sc : Option (Nat × (Nat → Int32))}  {s : xS} {o : xH × Option Value} {r : (xS × Int32)}  (h : f64_84  s = some r) (hr : dn64 o r) : Ev sc 5 64 [] 84 [none, none, none] [] (hk_of s) o := by
  unfold f64_84 at h
  refine E_blk rfl ?_
  refine E_ps 1 (pc' := 85) (l' := [none, none, none]) (st' := [.int (0 : Int32)]) rfl ?_
  cases h
  exact E_ret rfl (pg_mt_md (by decide)) rfl hr
noncomputable def f64_63 (x0 : Nat) (x1 : Nat) (s : xS) : Option (xS × Int32) := (f83 x1 (1684366704 : Int64) s).bind fun z1 => if z1.2 = 0 then (f64_84  z1.1) else ((f86 x1 (0 : Int32) (1 : Int32) (9 : Int32) z1.1).bind fun z4 => if z4.2 = 0 then (f64_84  z4.1) else ((pI z4.1 x0 6 (z4.1.1 x1 9)).bind fun t7 => (f84 x1 t7).bind fun z9 => ifg (z9.2 = 0 ∨ z9.2 = 1) <| some (z9.1, z9.2)))
set_option maxRecDepth 20000 in
theorem s64_63 {sc : Option (Nat × (Nat → Int32))} {x0 : Nat} {x1 : Nat} {s : xS} {o : xH × Option Value} {r : (xS × Int32)} (k0 : oK x0 6 = true) (k1 : oK x1 8 = true) (h : f64_63 x0 x1 s = some r) (hr : dn64 o r) : Ev sc 5 64 [] 63 [some (.ref x0), some (.ref x1), none] [] (hk_of s) o := by
  unfold f64_63 at h
  refine E_blk rfl ?_
  refine E_ps 2 (pc' := 67) (l' := [some (.ref x0), some (.ref x1), none]) (st' := [.long (1684366704 : Int64), .ref x1]) rfl ?_
  obtain ⟨z1, e2, h⟩ := Option.bind_eq_some_iff.mp h
  refine E_callI (vs := [.ref x1, .long (1684366704 : Int64)]) (rest := []) rfl (by decide) rfl rfl (Nat.le_of_ble_eq_true rfl) (s83 e2) (by decide) ?_
  by_cases c3 : z1.2 = 0
  · rw [if_pos c3] at h
    refine E_jt rfl rfl c3 ?_
    exact E_wk (l' := [none, none, none]) trivial (s64_84  h hr)
  · rw [if_neg c3] at h
    refine E_jf rfl rfl c3 ?_
    refine E_blk rfl ?_
    refine E_ps 4 (pc' := 78) (l' := [some (.ref x0), some (.ref x1), none]) (st' := [.int (9 : Int32), .int (1 : Int32), .int (0 : Int32), .ref x1]) rfl ?_
    obtain ⟨z4, e5, h⟩ := Option.bind_eq_some_iff.mp h
    refine E_callI (vs := [.ref x1, .int (0 : Int32), .int (1 : Int32), .int (9 : Int32)]) (rest := []) rfl (by decide) rfl rfl (Nat.le_of_ble_eq_true rfl) (s86 e5) (by decide) ?_
    by_cases c6 : z4.2 = 0
    · rw [if_pos c6] at h
      refine E_jt rfl rfl c6 ?_
      exact E_wk (l' := [none, none, none]) trivial (s64_84  h hr)
    · rw [if_neg c6] at h
      refine E_jf rfl rfl c6 ?_
      refine E_blk rfl ?_
      refine E_ps 2 (pc' := 88) (l' := [some (.ref x0), some (.ref x1), none]) (st' := [.ref x1, .ref x0]) rfl ?_
      refine E_gi k1 (by decide) rfl ?_
      obtain ⟨t7, e8, h⟩ := Option.bind_eq_some_iff.mp h
      refine E_pi k0 (by decide) rfl e8 ?_
      refine E_ps 1 (pc' := 95) (l' := [some (.ref x0), some (.ref x1), none]) (st' := [.ref x1]) rfl ?_
      obtain ⟨z9, e10, h⟩ := Option.bind_eq_some_iff.mp h
      refine E_callI (vs := [.ref x1]) (rest := []) rfl (by decide) rfl rfl (Nat.le_of_ble_eq_true rfl) (s84 e10) (by decide) ?_
      obtain ⟨g11, h⟩ := ifg_some h
      cases h
      exact E_ret rfl (pg_mt_md (by decide)) (hk_retz g11 rfl) hr
noncomputable def f64 (x0 : Nat) (x1 : Nat) (x2 : Nat) (s : xS) : Option (xS × Int32) := ifg (oK x0 6 = true) <| ifg (oK x1 8 = true) <| ifg (oK x2 7 = true) <| (f83 x1 (126870957944933 : Int64) s).bind fun z1 => if z1.2 = 0 then (f64_17  z1.1) else ((f85 x1 z1.1).bind fun z4 => if z4.2 = 0 then (f64_17  z4.1) else ((f70 x2 (z4.1.2 x1 10) z4.1).bind fun z7 => (pI z7.1 x0 5 z7.2).bind fun t9 => if (t9.1 x0 5) = (t9.1 x0 0) then (f64_63 x0 x1 t9) else (if (t9.1 x0 5) = (t9.1 x0 1) then (f64_63 x0 x1 t9) else ((f79 x1 (5 : Int32) (t9.1 x1 11) t9).bind fun z13 => ifg (z13.2 = 0 ∨ z13.2 = 1) <| some (z13.1, z13.2)))))
set_option maxRecDepth 20000 in
theorem s64 {sc : Option (Nat × (Nat → Int32))} {x0 : Nat} {x1 : Nat} {x2 : Nat} {s : xS} {r : xS × Int32} (h : f64 x0 x1 x2 s = some r) : Cl sc 5 64 [.ref x0, .ref x1, .ref x2] (hk_of s) (hk_of r.1, some (.int r.2)) := by
  unfold f64 at h
  obtain ⟨k0, h⟩ := ifg_some h
  obtain ⟨k1, h⟩ := ifg_some h
  obtain ⟨k2, h⟩ := ifg_some h
  refine ⟨pg_md 64, [some (.ref x0), some (.ref x1), some (.ref x2)], pg_mt_md (by decide), (hk_rcv k0), rfl, ?_⟩
  generalize ho : ((hk_of r.1, some (Value.int r.2)) : xH × Option Value) = o
  have hr : dn64 o r := ho.symm
  refine E_blk rfl ?_
  refine E_ps 2 (pc' := 4) (l' := [some (.ref x0), some (.ref x1), some (.ref x2)]) (st' := [.long (126870957944933 : Int64), .ref x1]) rfl ?_
  obtain ⟨z1, e2, h⟩ := Option.bind_eq_some_iff.mp h
  refine E_callI (vs := [.ref x1, .long (126870957944933 : Int64)]) (rest := []) rfl (by decide) rfl rfl (Nat.le_of_ble_eq_true rfl) (s83 e2) (by decide) ?_
  by_cases c3 : z1.2 = 0
  · rw [if_pos c3] at h
    refine E_jt rfl rfl c3 ?_
    exact E_wk (l' := [none, none, none]) trivial (s64_17  h hr)
  · rw [if_neg c3] at h
    refine E_jf rfl rfl c3 ?_
    refine E_blk rfl ?_
    refine E_ps 1 (pc' := 11) (l' := [some (.ref x0), some (.ref x1), some (.ref x2)]) (st' := [.ref x1]) rfl ?_
    obtain ⟨z4, e5, h⟩ := Option.bind_eq_some_iff.mp h
    refine E_callI (vs := [.ref x1]) (rest := []) rfl (by decide) rfl rfl (Nat.le_of_ble_eq_true rfl) (s85 e5) (by decide) ?_
    by_cases c6 : z4.2 = 0
    · rw [if_pos c6] at h
      refine E_jt rfl rfl c6 ?_
      exact E_wk (l' := [none, none, none]) trivial (s64_17  h hr)
    · rw [if_neg c6] at h
      refine E_jf rfl rfl c6 ?_
      refine E_blk rfl ?_
      refine E_ps 3 (pc' := 22) (l' := [some (.ref x0), some (.ref x1), some (.ref x2)]) (st' := [.ref x1, .ref x2, .ref x0]) rfl ?_
      refine E_gl k1 (by decide) rfl ?_
      obtain ⟨z7, e8, h⟩ := Option.bind_eq_some_iff.mp h
      refine E_callI (vs := [.ref x2, .long (z4.1.2 x1 10)]) (rest := [.ref x0]) rfl (by decide) rfl rfl (Nat.le_of_ble_eq_true rfl) (s70 e8) (by decide) ?_
      obtain ⟨t9, e10, h⟩ := Option.bind_eq_some_iff.mp h
      refine E_pi k0 (by decide) rfl e10 ?_
      refine E_ps 1 (pc' := 32) (l' := [some (.ref x0), some (.ref x1), some (.ref x2)]) (st' := [.ref x0]) rfl ?_
      refine E_gi k0 (by decide) rfl ?_
      refine E_ps 1 (pc' := 36) (l' := [some (.ref x0), some (.ref x1), some (.ref x2)]) (st' := [.ref x0, .int (t9.1 x0 5)]) rfl ?_
      refine E_gi k0 (by decide) rfl ?_
      by_cases c11 : (t9.1 x0 5) = (t9.1 x0 0)
      · rw [if_pos c11] at h
        refine E_jt rfl rfl c11 ?_
        exact E_wk (l' := [some (.ref x0), some (.ref x1), none]) ⟨rfl, rfl, trivial⟩ (s64_63 k0 k1 h hr)
      · rw [if_neg c11] at h
        refine E_jf rfl rfl c11 ?_
        refine E_blk rfl ?_
        refine E_ps 1 (pc' := 43) (l' := [some (.ref x0), some (.ref x1), some (.ref x2)]) (st' := [.ref x0]) rfl ?_
        refine E_gi k0 (by decide) rfl ?_
        refine E_ps 1 (pc' := 47) (l' := [some (.ref x0), some (.ref x1), some (.ref x2)]) (st' := [.ref x0, .int (t9.1 x0 5)]) rfl ?_
        refine E_gi k0 (by decide) rfl ?_
        by_cases c12 : (t9.1 x0 5) = (t9.1 x0 1)
        · rw [if_pos c12] at h
          refine E_jt rfl rfl c12 ?_
          exact E_wk (l' := [some (.ref x0), some (.ref x1), none]) ⟨rfl, rfl, trivial⟩ (s64_63 k0 k1 h hr)
        · rw [if_neg c12] at h
          refine E_jf rfl rfl c12 ?_
          refine E_blk rfl ?_
          refine E_ps 3 (pc' := 56) (l' := [some (.ref x0), some (.ref x1), some (.ref x2)]) (st' := [.ref x1, .int (5 : Int32), .ref x1]) rfl ?_
          refine E_gi k1 (by decide) rfl ?_
          obtain ⟨z13, e14, h⟩ := Option.bind_eq_some_iff.mp h
          refine E_callI (vs := [.ref x1, .int (5 : Int32), .int (t9.1 x1 11)]) (rest := []) rfl (by decide) rfl rfl (Nat.le_of_ble_eq_true rfl) (s79 e14) (by decide) ?_
          obtain ⟨g15, h⟩ := ifg_some h
          cases h
          exact E_ret rfl (pg_mt_md (by decide)) (hk_retz g15 rfl) hr

-- 61: ThreePlates$Round.readRound(LThreePlates$Tape;LThreePlates$Shop;)Z
def dn61 (o : xH × Option Value) (r : xS × Int32) : Prop := o = (hk_of r.1, some (.int r.2))
noncomputable def f61_31 (y0 : Int32) (s : xS) : Option (xS × Int32) := ifg (y0 = 0 ∨ y0 = 1) <| some (s, y0)
set_option maxRecDepth 20000 in
theorem s61_31 {sc : Option (Nat × (Nat → Int32))} {y0 : Int32} {s : xS} {o : xH × Option Value} {r : (xS × Int32)}  (h : f61_31 y0 s = some r) (hr : dn61 o r) : Ev sc 6 61 [] 31 [none, none, none] [.int y0] (hk_of s) o := by
  unfold f61_31 at h
  refine E_blk rfl ?_
  obtain ⟨g1, h⟩ := ifg_some h
  cases h
  exact E_ret rfl (pg_mt_md (by decide)) (hk_retz g1 rfl) hr
noncomputable def f61_30  (s : xS) : Option (xS × Int32) := f61_31 (0 : Int32) s
set_option maxRecDepth 20000 in
theorem s61_30 {sc : Option (Nat × (Nat → Int32))}  {s : xS} {o : xH × Option Value} {r : (xS × Int32)}  (h : f61_30  s = some r) (hr : dn61 o r) : Ev sc 6 61 [] 30 [none, none, none] [] (hk_of s) o := by
  unfold f61_30 at h
  refine E_blk rfl ?_
  refine E_ps 1 (pc' := 31) (l' := [none, none, none]) (st' := [.int (0 : Int32)]) rfl ?_
  exact E_wk (l' := [none, none, none]) trivial (s61_31  h hr)
noncomputable def f61 (x0 : Nat) (x1 : Nat) (x2 : Nat) (s : xS) : Option (xS × Int32) := ifg (oK x0 6 = true) <| ifg (oK x1 8 = true) <| ifg (oK x2 7 = true) <| (f62 x0 x1 x2 s).bind fun z1 => if z1.2 = 0 then (f61_30  z1.1) else ((f63 x0 x1 z1.1).bind fun z4 => if z4.2 = 0 then (f61_30  z4.1) else ((f64 x0 x1 x2 z4.1).bind fun z7 => if z7.2 = 0 then (f61_30  z7.1) else (f61_31 (1 : Int32) z7.1)))
set_option maxRecDepth 20000 in
theorem s61 {sc : Option (Nat × (Nat → Int32))} {x0 : Nat} {x1 : Nat} {x2 : Nat} {s : xS} {r : xS × Int32} (h : f61 x0 x1 x2 s = some r) : Cl sc 6 61 [.ref x0, .ref x1, .ref x2] (hk_of s) (hk_of r.1, some (.int r.2)) := by
  unfold f61 at h
  obtain ⟨k0, h⟩ := ifg_some h
  obtain ⟨k1, h⟩ := ifg_some h
  obtain ⟨k2, h⟩ := ifg_some h
  refine ⟨pg_md 61, [some (.ref x0), some (.ref x1), some (.ref x2)], pg_mt_md (by decide), (hk_rcv k0), rfl, ?_⟩
  generalize ho : ((hk_of r.1, some (Value.int r.2)) : xH × Option Value) = o
  have hr : dn61 o r := ho.symm
  refine E_blk rfl ?_
  refine E_ps 3 (pc' := 3) (l' := [some (.ref x0), some (.ref x1), some (.ref x2)]) (st' := [.ref x2, .ref x1, .ref x0]) rfl ?_
  obtain ⟨z1, e2, h⟩ := Option.bind_eq_some_iff.mp h
  refine E_callI (vs := [.ref x0, .ref x1, .ref x2]) (rest := []) rfl (by decide) rfl rfl (Nat.le_of_ble_eq_true rfl) (s62 e2) (by decide) ?_
  by_cases c3 : z1.2 = 0
  · rw [if_pos c3] at h
    refine E_jt rfl rfl c3 ?_
    exact E_wk (l' := [none, none, none]) trivial (s61_30  h hr)
  · rw [if_neg c3] at h
    refine E_jf rfl rfl c3 ?_
    refine E_blk rfl ?_
    refine E_ps 2 (pc' := 11) (l' := [some (.ref x0), some (.ref x1), some (.ref x2)]) (st' := [.ref x1, .ref x0]) rfl ?_
    obtain ⟨z4, e5, h⟩ := Option.bind_eq_some_iff.mp h
    refine E_callI (vs := [.ref x0, .ref x1]) (rest := []) rfl (by decide) rfl rfl (Nat.le_of_ble_eq_true rfl) (s63 e5) (by decide) ?_
    by_cases c6 : z4.2 = 0
    · rw [if_pos c6] at h
      refine E_jt rfl rfl c6 ?_
      exact E_wk (l' := [none, none, none]) trivial (s61_30  h hr)
    · rw [if_neg c6] at h
      refine E_jf rfl rfl c6 ?_
      refine E_blk rfl ?_
      refine E_ps 3 (pc' := 20) (l' := [some (.ref x0), some (.ref x1), some (.ref x2)]) (st' := [.ref x2, .ref x1, .ref x0]) rfl ?_
      obtain ⟨z7, e8, h⟩ := Option.bind_eq_some_iff.mp h
      refine E_callI (vs := [.ref x0, .ref x1, .ref x2]) (rest := []) rfl (by decide) rfl rfl (Nat.le_of_ble_eq_true rfl) (s64 e8) (by decide) ?_
      by_cases c9 : z7.2 = 0
      · rw [if_pos c9] at h
        refine E_jt rfl rfl c9 ?_
        exact E_wk (l' := [none, none, none]) trivial (s61_30  h hr)
      · rw [if_neg c9] at h
        refine E_jf rfl rfl c9 ?_
        refine E_blk rfl ?_
        refine E_ps 1 (pc' := 27) (l' := [some (.ref x0), some (.ref x1), some (.ref x2)]) (st' := [.int (1 : Int32)]) rfl ?_
        refine E_j rfl rfl ?_
        exact E_wk (l' := [none, none, none]) trivial (s61_31  h hr)

-- 81: ThreePlates$Tape.isAtEnd()Z
def dn81 (o : xH × Option Value) (r : xS × Int32) : Prop := o = (hk_of r.1, some (.int r.2))
noncomputable def f81_12 (y0 : Int32) (s : xS) : Option (xS × Int32) := ifg (y0 = 0 ∨ y0 = 1) <| some (s, y0)
set_option maxRecDepth 20000 in
theorem s81_12 {sc : Option (Nat × (Nat → Int32))} {y0 : Int32} {s : xS} {o : xH × Option Value} {r : (xS × Int32)}  (h : f81_12 y0 s = some r) (hr : dn81 o r) : Ev sc 1 81 [] 12 [none] [.int y0] (hk_of s) o := by
  unfold f81_12 at h
  refine E_blk rfl ?_
  obtain ⟨g1, h⟩ := ifg_some h
  cases h
  exact E_ret rfl (pg_mt_md (by decide)) (hk_retz g1 rfl) hr
noncomputable def f81 (x0 : Nat) (s : xS) : Option (xS × Int32) := ifg (oK x0 8 = true) <| if (s.1 x0 5) = 0 then (f81_12 (1 : Int32) s) else (f81_12 (0 : Int32) s)
set_option maxRecDepth 20000 in
theorem s81 {sc : Option (Nat × (Nat → Int32))} {x0 : Nat} {s : xS} {r : xS × Int32} (h : f81 x0 s = some r) : Cl sc 1 81 [.ref x0] (hk_of s) (hk_of r.1, some (.int r.2)) := by
  unfold f81 at h
  obtain ⟨k0, h⟩ := ifg_some h
  refine ⟨pg_md 81, [some (.ref x0)], pg_mt_md (by decide), (hk_rcv k0), rfl, ?_⟩
  generalize ho : ((hk_of r.1, some (Value.int r.2)) : xH × Option Value) = o
  have hr : dn81 o r := ho.symm
  refine E_blk rfl ?_
  refine E_ps 1 (pc' := 1) (l' := [some (.ref x0)]) (st' := [.ref x0]) rfl ?_
  refine E_gi k0 (by decide) rfl ?_
  by_cases c1 : (s.1 x0 5) = 0
  · rw [if_pos c1] at h
    refine E_jt rfl rfl c1 ?_
    refine E_blk rfl ?_
    refine E_ps 1 (pc' := 8) (l' := [some (.ref x0)]) (st' := [.int (1 : Int32)]) rfl ?_
    refine E_j rfl rfl ?_
    exact E_wk (l' := [none]) trivial (s81_12  h hr)
  · rw [if_neg c1] at h
    refine E_jf rfl rfl c1 ?_
    refine E_blk rfl ?_
    refine E_ps 1 (pc' := 12) (l' := [some (.ref x0)]) (st' := [.int (0 : Int32)]) rfl ?_
    exact E_wk (l' := [none]) trivial (s81_12  h hr)

-- 42: ThreePlates$Plan.readPlan(LThreePlates$Tape;LThreePlates$Shop;)Z
def dn42 (o : xH × Option Value) (r : xS × Int32) : Prop := o = (hk_of r.1, some (.int r.2))
def dn42_5 (sc : Option (Nat × (Nat → Int32))) (x0 : Nat) (x1 : Nat) (x2 : Nat) (o : xH × Option Value) (r : ((xS) ⊕ (xS × Int32))) : Prop := match r with
  | .inl q => Ev sc 7 42 [] 5 [some (.ref x0), some (.ref x1), some (.ref x2)] [] (hk_of q) o
  | .inr r => dn42 o r
noncomputable def f42_74 (y0 : Int32) (s : xS) : Option (xS × Int32) := ifg (y0 = 0 ∨ y0 = 1) <| some (s, y0)
set_option maxRecDepth 20000 in
theorem s42_74 {sc : Option (Nat × (Nat → Int32))} {y0 : Int32} {s : xS} {o : xH × Option Value} {r : (xS × Int32)}  (h : f42_74 y0 s = some r) (hr : dn42 o r) : Ev sc 7 42 [] 74 [none, none, none] [.int y0] (hk_of s) o := by
  unfold f42_74 at h
  refine E_blk rfl ?_
  obtain ⟨g1, h⟩ := ifg_some h
  cases h
  exact E_ret rfl (pg_mt_md (by decide)) (hk_retz g1 rfl) hr
noncomputable def f42_69  (s : xS) : Option (xS × Int32) := f42_74 (1 : Int32) s
set_option maxRecDepth 20000 in
theorem s42_69 {sc : Option (Nat × (Nat → Int32))}  {s : xS} {o : xH × Option Value} {r : (xS × Int32)}  (h : f42_69  s = some r) (hr : dn42 o r) : Ev sc 7 42 [] 69 [none, none, none] [] (hk_of s) o := by
  unfold f42_69 at h
  refine E_blk rfl ?_
  refine E_ps 1 (pc' := 70) (l' := [none, none, none]) (st' := [.int (1 : Int32)]) rfl ?_
  refine E_j rfl rfl ?_
  exact E_wk (l' := [none, none, none]) trivial (s42_74  h hr)
noncomputable def f42_5 (x0 : Nat) (x1 : Nat) (x2 : Nat) (s : xS) : Option ((xS) ⊕ (xS × Int32)) := if (10 : Int32) ≤ (s.1 x0 1) then (Option.map Sum.inr ((f81 x1 s).bind fun z2 => if z2.2 = 0 then ((f80 x1 z2.1).bind fun z5 => if z5.2 = 0 then (f42_74 (0 : Int32) z5.1) else (f42_69  z5.1)) else (f42_69  z2.1))) else ((f81 x1 s).bind fun z8 => if z8.2 = 0 then ((hk_R x0 0).bind fun a11 => (aR a11 (z8.1.1 x0 1)).bind fun a13 => ifg (oK a13 6 = true) <| (f61 a13 x1 x2 z8.1).bind fun z16 => if z16.2 = 0 then (Option.map Sum.inr (some (z16.1, (0 : Int32)))) else ((pI z16.1 x0 1 ((z16.1.1 x0 1) + (1 : Int32))).bind fun t19 => some (Sum.inl t19))) else (Option.map Sum.inr (some (z8.1, (1 : Int32)))))
set_option maxRecDepth 20000 in
theorem s42_5 {sc : Option (Nat × (Nat → Int32))} {x0 : Nat} {x1 : Nat} {x2 : Nat} {s : xS} {o : xH × Option Value} {r : ((xS) ⊕ (xS × Int32))} (k0 : oK x0 4 = true) (k1 : oK x1 8 = true) (k2 : oK x2 7 = true) (h : f42_5 x0 x1 x2 s = some r) (hr : dn42_5 sc x0 x1 x2 o r) : Ev sc 7 42 [] 5 [some (.ref x0), some (.ref x1), some (.ref x2)] [] (hk_of s) o := by
  unfold f42_5 at h
  refine E_blk rfl ?_
  refine E_ps 1 (pc' := 6) (l' := [some (.ref x0), some (.ref x1), some (.ref x2)]) (st' := [.ref x0]) rfl ?_
  refine E_gi k0 (by decide) rfl ?_
  refine E_ps 1 (pc' := 11) (l' := [some (.ref x0), some (.ref x1), some (.ref x2)]) (st' := [.int (10 : Int32), .int (s.1 x0 1)]) rfl ?_
  by_cases c1 : (10 : Int32) ≤ (s.1 x0 1)
  · rw [if_pos c1] at h
    refine E_jt rfl rfl c1 ?_
    obtain ⟨r, h, hr⟩ := lf_some (Dn := dn42_5 sc x0 x1 x2 o) h hr
    refine E_blk rfl ?_
    refine E_ps 1 (pc' := 56) (l' := [some (.ref x0), some (.ref x1), some (.ref x2)]) (st' := [.ref x1]) rfl ?_
    obtain ⟨z2, e3, h⟩ := Option.bind_eq_some_iff.mp h
    refine E_callI (vs := [.ref x1]) (rest := []) rfl (by decide) rfl rfl (Nat.le_of_ble_eq_true rfl) (s81 e3) (by decide) ?_
    by_cases c4 : z2.2 = 0
    · rw [if_pos c4] at h
      refine E_jt rfl rfl c4 ?_
      refine E_blk rfl ?_
      refine E_ps 1 (pc' := 63) (l' := [some (.ref x0), some (.ref x1), some (.ref x2)]) (st' := [.ref x1]) rfl ?_
      obtain ⟨z5, e6, h⟩ := Option.bind_eq_some_iff.mp h
      refine E_callI (vs := [.ref x1]) (rest := []) rfl (by decide) rfl rfl (Nat.le_of_ble_eq_true rfl) (s80 e6) (by decide) ?_
      by_cases c7 : z5.2 = 0
      · rw [if_pos c7] at h
        refine E_jt rfl rfl c7 ?_
        refine E_blk rfl ?_
        refine E_ps 1 (pc' := 74) (l' := [some (.ref x0), some (.ref x1), some (.ref x2)]) (st' := [.int (0 : Int32)]) rfl ?_
        exact E_wk (l' := [none, none, none]) trivial (s42_74  h hr)
      · rw [if_neg c7] at h
        refine E_jf rfl rfl c7 ?_
        exact E_wk (l' := [none, none, none]) trivial (s42_69  h hr)
    · rw [if_neg c4] at h
      refine E_jf rfl rfl c4 ?_
      exact E_wk (l' := [none, none, none]) trivial (s42_69  h hr)
  · rw [if_neg c1] at h
    refine E_jf rfl rfl c1 ?_
    refine E_blk rfl ?_
    refine E_ps 1 (pc' := 15) (l' := [some (.ref x0), some (.ref x1), some (.ref x2)]) (st' := [.ref x1]) rfl ?_
    obtain ⟨z8, e9, h⟩ := Option.bind_eq_some_iff.mp h
    refine E_callI (vs := [.ref x1]) (rest := []) rfl (by decide) rfl rfl (Nat.le_of_ble_eq_true rfl) (s81 e9) (by decide) ?_
    by_cases c10 : z8.2 = 0
    · rw [if_pos c10] at h
      refine E_jt rfl rfl c10 ?_
      refine E_blk rfl ?_
      refine E_ps 1 (pc' := 24) (l' := [some (.ref x0), some (.ref x1), some (.ref x2)]) (st' := [.ref x0]) rfl ?_
      obtain ⟨a11, e12, h⟩ := Option.bind_eq_some_iff.mp h
      refine E_gr k0 (by decide) rfl e12 ?_
      refine E_ps 1 (pc' := 28) (l' := [some (.ref x0), some (.ref x1), some (.ref x2)]) (st' := [.ref x0, .ref a11]) rfl ?_
      refine E_gi k0 (by decide) rfl ?_
      obtain ⟨a13, e14, h⟩ := Option.bind_eq_some_iff.mp h
      refine E_ar e14 ?_
      obtain ⟨g15, h⟩ := ifg_some h
      refine E_ps 2 (pc' := 34) (l' := [some (.ref x0), some (.ref x1), some (.ref x2)]) (st' := [.ref x2, .ref x1, .ref a13]) rfl ?_
      obtain ⟨z16, e17, h⟩ := Option.bind_eq_some_iff.mp h
      refine E_callI (vs := [.ref a13, .ref x1, .ref x2]) (rest := []) rfl (by decide) rfl rfl (Nat.le_of_ble_eq_true rfl) (s61 e17) (by decide) ?_
      by_cases c18 : z16.2 = 0
      · rw [if_pos c18] at h
        refine E_jt rfl rfl c18 ?_
        obtain ⟨r, h, hr⟩ := lf_some (Dn := dn42_5 sc x0 x1 x2 o) h hr
        refine E_blk rfl ?_
        refine E_ps 1 (pc' := 41) (l' := [some (.ref x0), some (.ref x1), some (.ref x2)]) (st' := [.int (0 : Int32)]) rfl ?_
        cases h
        exact E_ret rfl (pg_mt_md (by decide)) rfl hr
      · rw [if_neg c18] at h
        refine E_jf rfl rfl c18 ?_
        refine E_blk rfl ?_
        refine E_ps 2 (pc' := 44) (l' := [some (.ref x0), some (.ref x1), some (.ref x2)]) (st' := [.ref x0, .ref x0]) rfl ?_
        refine E_gi k0 (by decide) rfl ?_
        refine E_ps 2 (pc' := 49) (l' := [some (.ref x0), some (.ref x1), some (.ref x2)]) (st' := [.int ((z16.1.1 x0 1) + (1 : Int32)), .ref x0]) rfl ?_
        obtain ⟨t19, e20, h⟩ := Option.bind_eq_some_iff.mp h
        refine E_pi k0 (by decide) rfl e20 ?_
        refine E_j rfl rfl ?_
        cases h
        exact E_wk (l' := [some (.ref x0), some (.ref x1), some (.ref x2)]) ⟨rfl, rfl, rfl, trivial⟩ hr
    · rw [if_neg c10] at h
      refine E_jf rfl rfl c10 ?_
      obtain ⟨r, h, hr⟩ := lf_some (Dn := dn42_5 sc x0 x1 x2 o) h hr
      refine E_blk rfl ?_
      refine E_ps 1 (pc' := 22) (l' := [some (.ref x0), some (.ref x1), some (.ref x2)]) (st' := [.int (1 : Int32)]) rfl ?_
      cases h
      exact E_ret rfl (pg_mt_md (by decide)) rfl hr
theorem s42_5_w {sc : Option (Nat × (Nat → Int32))} {x0 : Nat} {x1 : Nat} {x2 : Nat} {s : xS} {o : xH × Option Value} {r : (xS × Int32)} (k0 : oK x0 4 = true) (k1 : oK x1 8 = true) (k2 : oK x2 7 = true) (h : whl (fun q : (xS) => f42_5 x0 x1 x2 q) s = some r) (hr : dn42 o r) : Ev sc 7 42 [] 5 [some (.ref x0), some (.ref x1), some (.ref x2)] [] (hk_of s) o := by
  refine whl_snd (E := fun q : (xS) => Ev sc 7 42 [] 5 [some (.ref x0), some (.ref x1), some (.ref x2)] [] (hk_of q) o) (P := fun r => dn42 o r) (fun q r h hr => ?_) h hr
  exact s42_5 k0 k1 k2 h (by cases r <;> exact hr)
noncomputable def f42 (x0 : Nat) (x1 : Nat) (x2 : Nat) (s : xS) : Option (xS × Int32) := ifg (oK x0 4 = true) <| ifg (oK x1 8 = true) <| ifg (oK x2 7 = true) <| (pI s x0 1 (0 : Int32)).bind fun t1 => whl (fun q : (xS) => f42_5 x0 x1 x2 q) t1
set_option maxRecDepth 20000 in
theorem s42 {sc : Option (Nat × (Nat → Int32))} {x0 : Nat} {x1 : Nat} {x2 : Nat} {s : xS} {r : xS × Int32} (h : f42 x0 x1 x2 s = some r) : Cl sc 7 42 [.ref x0, .ref x1, .ref x2] (hk_of s) (hk_of r.1, some (.int r.2)) := by
  unfold f42 at h
  obtain ⟨k0, h⟩ := ifg_some h
  obtain ⟨k1, h⟩ := ifg_some h
  obtain ⟨k2, h⟩ := ifg_some h
  refine ⟨pg_md 42, [some (.ref x0), some (.ref x1), some (.ref x2)], pg_mt_md (by decide), (hk_rcv k0), rfl, ?_⟩
  generalize ho : ((hk_of r.1, some (Value.int r.2)) : xH × Option Value) = o
  have hr : dn42 o r := ho.symm
  refine E_blk rfl ?_
  refine E_ps 2 (pc' := 2) (l' := [some (.ref x0), some (.ref x1), some (.ref x2)]) (st' := [.int (0 : Int32), .ref x0]) rfl ?_
  obtain ⟨t1, e2, h⟩ := Option.bind_eq_some_iff.mp h
  refine E_pi k0 (by decide) rfl e2 ?_
  exact E_wk (l' := [some (.ref x0), some (.ref x1), some (.ref x2)]) ⟨rfl, rfl, rfl, trivial⟩ (s42_5_w k0 k1 k2 h hr)

-- 46: ThreePlates$Resting.mostGap()I
def dn46 (o : xH × Option Value) (r : xS × Int32) : Prop := o = (hk_of r.1, some (.int r.2))
def dn46_4 (sc : Option (Nat × (Nat → Int32))) (x0 : Nat) (o : xH × Option Value) (r : ((Int32 × Int32 × xS) ⊕ (xS × Int32))) : Prop := match r with
  | .inl q => Ev sc 1 46 [] 4 [some (.ref x0), some (.int q.1), some (.int q.2.1)] [] (hk_of q.2.2) o
  | .inr r => dn46 o r
noncomputable def f46_4 (x0 : Nat) (x1 : Int32) (x2 : Int32) (s : xS) : Option ((Int32 × Int32 × xS) ⊕ (xS × Int32)) := if (s.1 x0 5) ≤ x2 then (Option.map Sum.inr (some (s, x1))) else ((hk_R x0 4).bind fun a2 => (aI s a2 x2).bind fun v4 => some (Sum.inl ((if x1 < v4 then v4 else x1), (x2 + (1 : Int32)), s)))
set_option maxRecDepth 20000 in
theorem s46_4 {sc : Option (Nat × (Nat → Int32))} {x0 : Nat} {x1 : Int32} {x2 : Int32} {s : xS} {o : xH × Option Value} {r : ((Int32 × Int32 × xS) ⊕ (xS × Int32))} (k0 : oK x0 5 = true) (h : f46_4 x0 x1 x2 s = some r) (hr : dn46_4 sc x0 o r) : Ev sc 1 46 [] 4 [some (.ref x0), some (.int x1), some (.int x2)] [] (hk_of s) o := by
  unfold f46_4 at h
  refine E_blk rfl ?_
  refine E_ps 2 (pc' := 6) (l' := [some (.ref x0), some (.int x1), some (.int x2)]) (st' := [.ref x0, .int x2]) rfl ?_
  refine E_gi k0 (by decide) rfl ?_
  by_cases c1 : (s.1 x0 5) ≤ x2
  · rw [if_pos c1] at h
    refine E_jt rfl rfl c1 ?_
    obtain ⟨r, h, hr⟩ := lf_some (Dn := dn46_4 sc x0 o) h hr
    refine E_blk rfl ?_
    refine E_ps 1 (pc' := 30) (l' := [some (.ref x0), some (.int x1), some (.int x2)]) (st' := [.int x1]) rfl ?_
    cases h
    exact E_ret rfl (pg_mt_md (by decide)) rfl hr
  · rw [if_neg c1] at h
    refine E_jf rfl rfl c1 ?_
    refine E_blk rfl ?_
    refine E_ps 2 (pc' := 14) (l' := [some (.ref x0), some (.int x1), some (.int x2)]) (st' := [.ref x0, .int x1]) rfl ?_
    obtain ⟨a2, e3, h⟩ := Option.bind_eq_some_iff.mp h
    refine E_gr k0 (by decide) rfl e3 ?_
    refine E_ps 1 (pc' := 18) (l' := [some (.ref x0), some (.int x1), some (.int x2)]) (st' := [.int x2, .ref a2, .int x1]) rfl ?_
    obtain ⟨v4, e5, h⟩ := Option.bind_eq_some_iff.mp h
    refine E_ai e5 ?_
    refine E_ma (st' := [.int (if x1 < v4 then v4 else x1)]) rfl (by decide) rfl ?_
    refine E_ps 2 (pc' := 26) (l' := [some (.ref x0), some (.int (if x1 < v4 then v4 else x1)), some (.int (x2 + (1 : Int32)))]) (st' := []) rfl ?_
    refine E_j rfl rfl ?_
    cases h
    exact E_wk (l' := [some (.ref x0), some (.int (if x1 < v4 then v4 else x1)), some (.int (x2 + (1 : Int32)))]) ⟨rfl, rfl, rfl, trivial⟩ hr
theorem s46_4_w {sc : Option (Nat × (Nat → Int32))} {x0 : Nat} {x1 : Int32} {x2 : Int32} {s : xS} {o : xH × Option Value} {r : (xS × Int32)} (k0 : oK x0 5 = true) (h : whl (fun q : (Int32 × Int32 × xS) => f46_4 x0 q.1 q.2.1 q.2.2) (x1, x2, s) = some r) (hr : dn46 o r) : Ev sc 1 46 [] 4 [some (.ref x0), some (.int x1), some (.int x2)] [] (hk_of s) o := by
  refine whl_snd (E := fun q : (Int32 × Int32 × xS) => Ev sc 1 46 [] 4 [some (.ref x0), some (.int q.1), some (.int q.2.1)] [] (hk_of q.2.2) o) (P := fun r => dn46 o r) (fun q r h hr => ?_) h hr
  exact s46_4 k0 h (by cases r <;> exact hr)
noncomputable def f46 (x0 : Nat) (s : xS) : Option (xS × Int32) := ifg (oK x0 5 = true) <| whl (fun q : (Int32 × Int32 × xS) => f46_4 x0 q.1 q.2.1 q.2.2) ((0 : Int32), (0 : Int32), s)
set_option maxRecDepth 20000 in
theorem s46 {sc : Option (Nat × (Nat → Int32))} {x0 : Nat} {s : xS} {r : xS × Int32} (h : f46 x0 s = some r) : Cl sc 1 46 [.ref x0] (hk_of s) (hk_of r.1, some (.int r.2)) := by
  unfold f46 at h
  obtain ⟨k0, h⟩ := ifg_some h
  refine ⟨pg_md 46, [some (.ref x0), none, none], pg_mt_md (by decide), (hk_rcv k0), rfl, ?_⟩
  generalize ho : ((hk_of r.1, some (Value.int r.2)) : xH × Option Value) = o
  have hr : dn46 o r := ho.symm
  refine E_blk rfl ?_
  refine E_ps 4 (pc' := 4) (l' := [some (.ref x0), some (.int (0 : Int32)), some (.int (0 : Int32))]) (st' := []) rfl ?_
  exact E_wk (l' := [some (.ref x0), some (.int (0 : Int32)), some (.int (0 : Int32))]) ⟨rfl, rfl, rfl, trivial⟩ (s46_4_w k0 h hr)

-- 47: ThreePlates$Resting.allGaps()J
def dn47 (o : xH × Option Value) (r : xS × Int64) : Prop := o = (hk_of r.1, some (.long r.2))
def dn47_4 (sc : Option (Nat × (Nat → Int32))) (x0 : Nat) (o : xH × Option Value) (r : ((Int64 × Int32 × xS) ⊕ (xS × Int64))) : Prop := match r with
  | .inl q => Ev sc 1 47 [] 4 [some (.ref x0), some (.long q.1), none, some (.int q.2.1)] [] (hk_of q.2.2) o
  | .inr r => dn47 o r
noncomputable def f47_4 (x0 : Nat) (x1 : Int64) (x3 : Int32) (s : xS) : Option ((Int64 × Int32 × xS) ⊕ (xS × Int64)) := if (s.1 x0 5) ≤ x3 then (Option.map Sum.inr (some (s, x1))) else ((hk_R x0 4).bind fun a2 => (aI s a2 x3).bind fun v4 => some (Sum.inl ((x1 + v4.toInt64), (x3 + (1 : Int32)), s)))
set_option maxRecDepth 20000 in
theorem s47_4 {sc : Option (Nat × (Nat → Int32))} {x0 : Nat} {x1 : Int64} {x3 : Int32} {s : xS} {o : xH × Option Value} {r : ((Int64 × Int32 × xS) ⊕ (xS × Int64))} (k0 : oK x0 5 = true) (h : f47_4 x0 x1 x3 s = some r) (hr : dn47_4 sc x0 o r) : Ev sc 1 47 [] 4 [some (.ref x0), some (.long x1), none, some (.int x3)] [] (hk_of s) o := by
  unfold f47_4 at h
  refine E_blk rfl ?_
  refine E_ps 2 (pc' := 6) (l' := [some (.ref x0), some (.long x1), none, some (.int x3)]) (st' := [.ref x0, .int x3]) rfl ?_
  refine E_gi k0 (by decide) rfl ?_
  by_cases c1 : (s.1 x0 5) ≤ x3
  · rw [if_pos c1] at h
    refine E_jt rfl rfl c1 ?_
    obtain ⟨r, h, hr⟩ := lf_some (Dn := dn47_4 sc x0 o) h hr
    refine E_blk rfl ?_
    refine E_ps 1 (pc' := 29) (l' := [some (.ref x0), some (.long x1), none, some (.int x3)]) (st' := [.long x1]) rfl ?_
    cases h
    exact E_ret rfl (pg_mt_md (by decide)) rfl hr
  · rw [if_neg c1] at h
    refine E_jf rfl rfl c1 ?_
    refine E_blk rfl ?_
    refine E_ps 2 (pc' := 14) (l' := [some (.ref x0), some (.long x1), none, some (.int x3)]) (st' := [.ref x0, .long x1]) rfl ?_
    obtain ⟨a2, e3, h⟩ := Option.bind_eq_some_iff.mp h
    refine E_gr k0 (by decide) rfl e3 ?_
    refine E_ps 1 (pc' := 18) (l' := [some (.ref x0), some (.long x1), none, some (.int x3)]) (st' := [.int x3, .ref a2, .long x1]) rfl ?_
    obtain ⟨v4, e5, h⟩ := Option.bind_eq_some_iff.mp h
    refine E_ai e5 ?_
    refine E_ps 4 (pc' := 25) (l' := [some (.ref x0), some (.long (x1 + v4.toInt64)), none, some (.int (x3 + (1 : Int32)))]) (st' := []) rfl ?_
    refine E_j rfl rfl ?_
    cases h
    exact E_wk (l' := [some (.ref x0), some (.long (x1 + v4.toInt64)), none, some (.int (x3 + (1 : Int32)))]) ⟨rfl, rfl, rfl, trivial⟩ hr
theorem s47_4_w {sc : Option (Nat × (Nat → Int32))} {x0 : Nat} {x1 : Int64} {x3 : Int32} {s : xS} {o : xH × Option Value} {r : (xS × Int64)} (k0 : oK x0 5 = true) (h : whl (fun q : (Int64 × Int32 × xS) => f47_4 x0 q.1 q.2.1 q.2.2) (x1, x3, s) = some r) (hr : dn47 o r) : Ev sc 1 47 [] 4 [some (.ref x0), some (.long x1), none, some (.int x3)] [] (hk_of s) o := by
  refine whl_snd (E := fun q : (Int64 × Int32 × xS) => Ev sc 1 47 [] 4 [some (.ref x0), some (.long q.1), none, some (.int q.2.1)] [] (hk_of q.2.2) o) (P := fun r => dn47 o r) (fun q r h hr => ?_) h hr
  exact s47_4 k0 h (by cases r <;> exact hr)
noncomputable def f47 (x0 : Nat) (s : xS) : Option (xS × Int64) := ifg (oK x0 5 = true) <| whl (fun q : (Int64 × Int32 × xS) => f47_4 x0 q.1 q.2.1 q.2.2) ((0 : Int64), (0 : Int32), s)
set_option maxRecDepth 20000 in
theorem s47 {sc : Option (Nat × (Nat → Int32))} {x0 : Nat} {s : xS} {r : xS × Int64} (h : f47 x0 s = some r) : Cl sc 1 47 [.ref x0] (hk_of s) (hk_of r.1, some (.long r.2)) := by
  unfold f47 at h
  obtain ⟨k0, h⟩ := ifg_some h
  refine ⟨pg_md 47, [some (.ref x0), none, none, none], pg_mt_md (by decide), (hk_rcv k0), rfl, ?_⟩
  generalize ho : ((hk_of r.1, some (Value.long r.2)) : xH × Option Value) = o
  have hr : dn47 o r := ho.symm
  refine E_blk rfl ?_
  refine E_ps 4 (pc' := 4) (l' := [some (.ref x0), some (.long (0 : Int64)), none, some (.int (0 : Int32))]) (st' := []) rfl ?_
  exact E_wk (l' := [some (.ref x0), some (.long (0 : Int64)), none, some (.int (0 : Int32))]) ⟨rfl, rfl, rfl, trivial⟩ (s47_4_w k0 h hr)

-- 48: ThreePlates$Resting.isWithin(I)Z
def dn48 (o : xH × Option Value) (r : xS × Int32) : Prop := o = (hk_of r.1, some (.int r.2))
noncomputable def f48_18 (y0 : Int32) (s : xS) : Option (xS × Int32) := ifg (y0 = 0 ∨ y0 = 1) <| some (s, y0)
set_option maxRecDepth 20000 in
theorem s48_18 {sc : Option (Nat × (Nat → Int32))} {y0 : Int32} {s : xS} {o : xH × Option Value} {r : (xS × Int32)}  (h : f48_18 y0 s = some r) (hr : dn48 o r) : Ev sc 2 48 [] 18 [none, none] [.int y0] (hk_of s) o := by
  unfold f48_18 at h
  refine E_blk rfl ?_
  obtain ⟨g1, h⟩ := ifg_some h
  cases h
  exact E_ret rfl (pg_mt_md (by decide)) (hk_retz g1 rfl) hr
noncomputable def f48 (x0 : Nat) (x1 : Int32) (s : xS) : Option (xS × Int32) := ifg (oK x0 5 = true) <| (f46 x0 s).bind fun z1 => if (x1 * (z1.1.1 x0 11)) < z1.2 then (f48_18 (0 : Int32) z1.1) else (f48_18 (1 : Int32) z1.1)
set_option maxRecDepth 20000 in
theorem s48 {sc : Option (Nat × (Nat → Int32))} {x0 : Nat} {x1 : Int32} {s : xS} {r : xS × Int32} (h : f48 x0 x1 s = some r) : Cl sc 2 48 [.ref x0, .int x1] (hk_of s) (hk_of r.1, some (.int r.2)) := by
  unfold f48 at h
  obtain ⟨k0, h⟩ := ifg_some h
  refine ⟨pg_md 48, [some (.ref x0), some (.int x1)], pg_mt_md (by decide), (hk_rcv k0), rfl, ?_⟩
  generalize ho : ((hk_of r.1, some (Value.int r.2)) : xH × Option Value) = o
  have hr : dn48 o r := ho.symm
  refine E_blk rfl ?_
  refine E_ps 1 (pc' := 1) (l' := [some (.ref x0), some (.int x1)]) (st' := [.ref x0]) rfl ?_
  obtain ⟨z1, e2, h⟩ := Option.bind_eq_some_iff.mp h
  refine E_callI (vs := [.ref x0]) (rest := []) rfl (by decide) rfl rfl (Nat.le_of_ble_eq_true rfl) (s46 e2) (by decide) ?_
  refine E_ps 2 (pc' := 6) (l' := [some (.ref x0), some (.int x1)]) (st' := [.ref x0, .int x1, .int z1.2]) rfl ?_
  refine E_gi k0 (by decide) rfl ?_
  refine E_ps 1 (pc' := 10) (l' := [some (.ref x0), some (.int x1)]) (st' := [.int (x1 * (z1.1.1 x0 11)), .int z1.2]) rfl ?_
  by_cases c3 : (x1 * (z1.1.1 x0 11)) < z1.2
  · rw [if_pos c3] at h
    refine E_jt rfl rfl c3 ?_
    refine E_blk rfl ?_
    refine E_ps 1 (pc' := 18) (l' := [some (.ref x0), some (.int x1)]) (st' := [.int (0 : Int32)]) rfl ?_
    exact E_wk (l' := [none, none]) trivial (s48_18  h hr)
  · rw [if_neg c3] at h
    refine E_jf rfl rfl c3 ?_
    refine E_blk rfl ?_
    refine E_ps 1 (pc' := 14) (l' := [some (.ref x0), some (.int x1)]) (st' := [.int (1 : Int32)]) rfl ?_
    refine E_j rfl rfl ?_
    exact E_wk (l' := [none, none]) trivial (s48_18  h hr)

-- 58: ThreePlates$Resting.stretch(II)V
def dn58 (o : xH × Option Value) (r : xS × Unit) : Prop := o = (hk_of r.1, none)
noncomputable def f58 (x0 : Nat) (x1 : Int32) (x2 : Int32) (s : xS) : Option (xS × Unit) := ifg (oK x0 5 = true) <| (hk_R x0 0).bind fun a1 => (aI s a1 x2).bind fun v3 => (hk_R x0 0).bind fun a5 => (aI s a5 x1).bind fun v7 => (pI s x0 11 (v3 - v7)).bind fun t9 => (hk_R x0 2).bind fun a11 => (aI t9 a11 x2).bind fun v13 => (hk_R x0 2).bind fun a15 => (aI t9 a15 x1).bind fun v17 => (pI t9 x0 9 (v13 - v17)).bind fun t19 => (pI t19 x0 10 (0 : Int32)).bind fun t21 => (hk_R x0 2).bind fun a23 => (aI t21 a23 x1).bind fun v25 => (hk_R x0 0).bind fun a27 => (aI t21 a27 x1).bind fun v29 => (pI t21 x0 8 ((v25 * (t21.1 x0 11)) - ((t21.1 x0 9) * v29))).bind fun t31 => some (t31, ())
set_option maxRecDepth 20000 in
theorem s58 {sc : Option (Nat × (Nat → Int32))} {x0 : Nat} {x1 : Int32} {x2 : Int32} {s : xS} {r : xS × Unit} (h : f58 x0 x1 x2 s = some r) : Cl sc 1 58 [.ref x0, .int x1, .int x2] (hk_of s) (hk_of r.1, none) := by
  unfold f58 at h
  obtain ⟨k0, h⟩ := ifg_some h
  refine ⟨pg_md 58, [some (.ref x0), some (.int x1), some (.int x2)], pg_mt_md (by decide), (hk_rcv k0), rfl, ?_⟩
  generalize ho : ((hk_of r.1, none) : xH × Option Value) = o
  have hr : dn58 o r := ho.symm
  refine E_blk rfl ?_
  refine E_ps 2 (pc' := 2) (l' := [some (.ref x0), some (.int x1), some (.int x2)]) (st' := [.ref x0, .ref x0]) rfl ?_
  obtain ⟨a1, e2, h⟩ := Option.bind_eq_some_iff.mp h
  refine E_gr k0 (by decide) rfl e2 ?_
  refine E_ps 1 (pc' := 6) (l' := [some (.ref x0), some (.int x1), some (.int x2)]) (st' := [.int x2, .ref a1, .ref x0]) rfl ?_
  obtain ⟨v3, e4, h⟩ := Option.bind_eq_some_iff.mp h
  refine E_ai e4 ?_
  refine E_ps 1 (pc' := 8) (l' := [some (.ref x0), some (.int x1), some (.int x2)]) (st' := [.ref x0, .int v3, .ref x0]) rfl ?_
  obtain ⟨a5, e6, h⟩ := Option.bind_eq_some_iff.mp h
  refine E_gr k0 (by decide) rfl e6 ?_
  refine E_ps 1 (pc' := 12) (l' := [some (.ref x0), some (.int x1), some (.int x2)]) (st' := [.int x1, .ref a5, .int v3, .ref x0]) rfl ?_
  obtain ⟨v7, e8, h⟩ := Option.bind_eq_some_iff.mp h
  refine E_ai e8 ?_
  refine E_ps 1 (pc' := 14) (l' := [some (.ref x0), some (.int x1), some (.int x2)]) (st' := [.int (v3 - v7), .ref x0]) rfl ?_
  obtain ⟨t9, e10, h⟩ := Option.bind_eq_some_iff.mp h
  refine E_pi k0 (by decide) rfl e10 ?_
  refine E_ps 2 (pc' := 19) (l' := [some (.ref x0), some (.int x1), some (.int x2)]) (st' := [.ref x0, .ref x0]) rfl ?_
  obtain ⟨a11, e12, h⟩ := Option.bind_eq_some_iff.mp h
  refine E_gr k0 (by decide) rfl e12 ?_
  refine E_ps 1 (pc' := 23) (l' := [some (.ref x0), some (.int x1), some (.int x2)]) (st' := [.int x2, .ref a11, .ref x0]) rfl ?_
  obtain ⟨v13, e14, h⟩ := Option.bind_eq_some_iff.mp h
  refine E_ai e14 ?_
  refine E_ps 1 (pc' := 25) (l' := [some (.ref x0), some (.int x1), some (.int x2)]) (st' := [.ref x0, .int v13, .ref x0]) rfl ?_
  obtain ⟨a15, e16, h⟩ := Option.bind_eq_some_iff.mp h
  refine E_gr k0 (by decide) rfl e16 ?_
  refine E_ps 1 (pc' := 29) (l' := [some (.ref x0), some (.int x1), some (.int x2)]) (st' := [.int x1, .ref a15, .int v13, .ref x0]) rfl ?_
  obtain ⟨v17, e18, h⟩ := Option.bind_eq_some_iff.mp h
  refine E_ai e18 ?_
  refine E_ps 1 (pc' := 31) (l' := [some (.ref x0), some (.int x1), some (.int x2)]) (st' := [.int (v13 - v17), .ref x0]) rfl ?_
  obtain ⟨t19, e20, h⟩ := Option.bind_eq_some_iff.mp h
  refine E_pi k0 (by decide) rfl e20 ?_
  refine E_ps 2 (pc' := 36) (l' := [some (.ref x0), some (.int x1), some (.int x2)]) (st' := [.int (0 : Int32), .ref x0]) rfl ?_
  obtain ⟨t21, e22, h⟩ := Option.bind_eq_some_iff.mp h
  refine E_pi k0 (by decide) rfl e22 ?_
  refine E_ps 2 (pc' := 41) (l' := [some (.ref x0), some (.int x1), some (.int x2)]) (st' := [.ref x0, .ref x0]) rfl ?_
  obtain ⟨a23, e24, h⟩ := Option.bind_eq_some_iff.mp h
  refine E_gr k0 (by decide) rfl e24 ?_
  refine E_ps 1 (pc' := 45) (l' := [some (.ref x0), some (.int x1), some (.int x2)]) (st' := [.int x1, .ref a23, .ref x0]) rfl ?_
  obtain ⟨v25, e26, h⟩ := Option.bind_eq_some_iff.mp h
  refine E_ai e26 ?_
  refine E_ps 1 (pc' := 47) (l' := [some (.ref x0), some (.int x1), some (.int x2)]) (st' := [.ref x0, .int v25, .ref x0]) rfl ?_
  refine E_gi k0 (by decide) rfl ?_
  refine E_ps 2 (pc' := 52) (l' := [some (.ref x0), some (.int x1), some (.int x2)]) (st' := [.ref x0, .int (v25 * (t21.1 x0 11)), .ref x0]) rfl ?_
  refine E_gi k0 (by decide) rfl ?_
  refine E_ps 1 (pc' := 56) (l' := [some (.ref x0), some (.int x1), some (.int x2)]) (st' := [.ref x0, .int (t21.1 x0 9), .int (v25 * (t21.1 x0 11)), .ref x0]) rfl ?_
  obtain ⟨a27, e28, h⟩ := Option.bind_eq_some_iff.mp h
  refine E_gr k0 (by decide) rfl e28 ?_
  refine E_ps 1 (pc' := 60) (l' := [some (.ref x0), some (.int x1), some (.int x2)]) (st' := [.int x1, .ref a27, .int (t21.1 x0 9), .int (v25 * (t21.1 x0 11)), .ref x0]) rfl ?_
  obtain ⟨v29, e30, h⟩ := Option.bind_eq_some_iff.mp h
  refine E_ai e30 ?_
  refine E_ps 2 (pc' := 63) (l' := [some (.ref x0), some (.int x1), some (.int x2)]) (st' := [.int ((v25 * (t21.1 x0 11)) - ((t21.1 x0 9) * v29)), .ref x0]) rfl ?_
  obtain ⟨t31, e32, h⟩ := Option.bind_eq_some_iff.mp h
  refine E_pi k0 (by decide) rfl e32 ?_
  cases h
  exact E_ret rfl (pg_mt_md (by decide)) rfl hr

-- 57: ThreePlates$Resting.settleLine()V
def dn57 (o : xH × Option Value) (r : xS × Unit) : Prop := o = (hk_of r.1, none)
def dn57_12 (sc : Option (Nat × (Nat → Int32))) (x0 : Nat) (o : xH × Option Value) (r : ((Int32 × Int32 × Int32 × Int32 × Int32 × xS) ⊕ (xS × Unit))) : Prop := match r with
  | .inl q => Ev sc 2 57 [] 12 [some (.ref x0), some (.int q.1), some (.int q.2.1), some (.int q.2.2.1), some (.int q.2.2.2.1), some (.int q.2.2.2.2.1), none, none, none] [] (hk_of q.2.2.2.2.2) o
  | .inr r => dn57 o r
def dn57_27 (sc : Option (Nat × (Nat → Int32))) (x0 : Nat) (x5 : Int32) (o : xH × Option Value) (r : ((Int32 × Int32 × Int32 × Int32 × Int32 × xS) ⊕ ((Int32 × Int32 × Int32 × Int32 × Int32 × xS) ⊕ (xS × Unit)))) : Prop := match r with
  | .inl q => Ev sc 2 57 [] 27 [some (.ref x0), some (.int q.1), some (.int q.2.1), some (.int q.2.2.1), some (.int q.2.2.2.1), some (.int x5), some (.int q.2.2.2.2.1), none, none] [] (hk_of q.2.2.2.2.2) o
  | .inr r => dn57_12 sc x0 o r
noncomputable def f57_119 (x0 : Nat) (x1 : Int32) (x2 : Int32) (x3 : Int32) (x4 : Int32) (x5 : Int32) (x6 : Int32) (s : xS) : Option ((Int32 × Int32 × Int32 × Int32 × Int32 × xS) ⊕ ((Int32 × Int32 × Int32 × Int32 × Int32 × xS) ⊕ (xS × Unit))) := some (Sum.inl (x1, x2, x3, x4, (x6 + (1 : Int32)), s))
set_option maxRecDepth 20000 in
theorem s57_119 {sc : Option (Nat × (Nat → Int32))} {x0 : Nat} {x1 : Int32} {x2 : Int32} {x3 : Int32} {x4 : Int32} {x5 : Int32} {x6 : Int32} {s : xS} {o : xH × Option Value} {r : ((Int32 × Int32 × Int32 × Int32 × Int32 × xS) ⊕ ((Int32 × Int32 × Int32 × Int32 × Int32 × xS) ⊕ (xS × Unit)))} (k0 : oK x0 5 = true) (h : f57_119 x0 x1 x2 x3 x4 x5 x6 s = some r) (hr : dn57_27 sc x0 x5 o r) : Ev sc 2 57 [] 119 [some (.ref x0), some (.int x1), some (.int x2), some (.int x3), some (.int x4), some (.int x5), some (.int x6), none, none] [] (hk_of s) o := by
  unfold f57_119 at h
  refine E_blk rfl ?_
  refine E_ps 1 (pc' := 122) (l' := [some (.ref x0), some (.int x1), some (.int x2), some (.int x3), some (.int x4), some (.int x5), some (.int (x6 + (1 : Int32))), none, none]) (st' := []) rfl ?_
  refine E_j rfl rfl ?_
  cases h
  exact E_wk (l' := [some (.ref x0), some (.int x1), some (.int x2), some (.int x3), some (.int x4), some (.int x5), some (.int (x6 + (1 : Int32))), none, none]) ⟨rfl, rfl, rfl, rfl, rfl, rfl, rfl, trivial⟩ hr
noncomputable def f57_89 (x0 : Nat) (x1 : Int32) (x2 : Int32) (x3 : Int32) (x4 : Int32) (x5 : Int32) (x6 : Int32) (x7 : Int32) (y0 : Int32) (s : xS) : Option ((Int32 × Int32 × Int32 × Int32 × Int32 × xS) ⊕ ((Int32 × Int32 × Int32 × Int32 × Int32 × xS) ⊕ (xS × Unit))) := if y0 = 0 then (f57_119 x0 x1 x2 x3 x4 x5 x6 s) else ((f51 x0 s).bind fun z2 => if z2.2 = (-1 : Int32) then (f57_119 x0 x6 x5 x7 (z2.1.1 x0 11) x5 x6 z2.1) else (f57_119 x0 x1 x2 x3 x4 x5 x6 z2.1))
set_option maxRecDepth 20000 in
theorem s57_89 {sc : Option (Nat × (Nat → Int32))} {x0 : Nat} {x1 : Int32} {x2 : Int32} {x3 : Int32} {x4 : Int32} {x5 : Int32} {x6 : Int32} {x7 : Int32} {y0 : Int32} {s : xS} {o : xH × Option Value} {r : ((Int32 × Int32 × Int32 × Int32 × Int32 × xS) ⊕ ((Int32 × Int32 × Int32 × Int32 × Int32 × xS) ⊕ (xS × Unit)))} (k0 : oK x0 5 = true) (h : f57_89 x0 x1 x2 x3 x4 x5 x6 x7 y0 s = some r) (hr : dn57_27 sc x0 x5 o r) : Ev sc 2 57 [] 89 [some (.ref x0), some (.int x1), some (.int x2), some (.int x3), some (.int x4), some (.int x5), some (.int x6), some (.int x7), none] [.int y0] (hk_of s) o := by
  unfold f57_89 at h
  refine E_blk rfl ?_
  refine E_ps 2 (pc' := 93) (l' := [some (.ref x0), some (.int x1), some (.int x2), some (.int x3), some (.int x4), some (.int x5), some (.int x6), some (.int x7), some (.int y0)]) (st' := [.int y0]) rfl ?_
  by_cases c1 : y0 = 0
  · rw [if_pos c1] at h
    refine E_jt rfl rfl c1 ?_
    exact E_wk (l' := [some (.ref x0), some (.int x1), some (.int x2), some (.int x3), some (.int x4), some (.int x5), some (.int x6), none, none]) ⟨rfl, rfl, rfl, rfl, rfl, rfl, rfl, trivial⟩ (s57_119 k0 h hr)
  · rw [if_neg c1] at h
    refine E_jf rfl rfl c1 ?_
    refine E_blk rfl ?_
    refine E_ps 1 (pc' := 97) (l' := [some (.ref x0), some (.int x1), some (.int x2), some (.int x3), some (.int x4), some (.int x5), some (.int x6), some (.int x7), some (.int y0)]) (st' := [.ref x0]) rfl ?_
    obtain ⟨z2, e3, h⟩ := Option.bind_eq_some_iff.mp h
    refine E_callI (vs := [.ref x0]) (rest := []) rfl (by decide) rfl rfl (Nat.le_of_ble_eq_true rfl) (s51 e3) (by decide) ?_
    refine E_ps 1 (pc' := 101) (l' := [some (.ref x0), some (.int x1), some (.int x2), some (.int x3), some (.int x4), some (.int x5), some (.int x6), some (.int x7), some (.int y0)]) (st' := [.int (-1 : Int32), .int z2.2]) rfl ?_
    by_cases c4 : z2.2 = (-1 : Int32)
    · rw [if_pos c4] at h
      refine E_jt rfl rfl c4 ?_
      refine E_blk rfl ?_
      refine E_ps 7 (pc' := 114) (l' := [some (.ref x0), some (.int x6), some (.int x5), some (.int x7), some (.int x4), some (.int x5), some (.int x6), some (.int x7), some (.int y0)]) (st' := [.ref x0]) rfl ?_
      refine E_gi k0 (by decide) rfl ?_
      refine E_ps 1 (pc' := 119) (l' := [some (.ref x0), some (.int x6), some (.int x5), some (.int x7), some (.int (z2.1.1 x0 11)), some (.int x5), some (.int x6), some (.int x7), some (.int y0)]) (st' := []) rfl ?_
      exact E_wk (l' := [some (.ref x0), some (.int x6), some (.int x5), some (.int x7), some (.int (z2.1.1 x0 11)), some (.int x5), some (.int x6), none, none]) ⟨rfl, rfl, rfl, rfl, rfl, rfl, rfl, trivial⟩ (s57_119 k0 h hr)
    · rw [if_neg c4] at h
      refine E_jf rfl rfl c4 ?_
      exact E_wk (l' := [some (.ref x0), some (.int x1), some (.int x2), some (.int x3), some (.int x4), some (.int x5), some (.int x6), none, none]) ⟨rfl, rfl, rfl, rfl, rfl, rfl, rfl, trivial⟩ (s57_119 k0 h hr)
noncomputable def f57_84 (x0 : Nat) (x1 : Int32) (x2 : Int32) (x3 : Int32) (x4 : Int32) (x5 : Int32) (x6 : Int32) (x7 : Int32) (s : xS) : Option ((Int32 × Int32 × Int32 × Int32 × Int32 × xS) ⊕ ((Int32 × Int32 × Int32 × Int32 × Int32 × xS) ⊕ (xS × Unit))) := f57_89 x0 x1 x2 x3 x4 x5 x6 x7 (1 : Int32) s
set_option maxRecDepth 20000 in
theorem s57_84 {sc : Option (Nat × (Nat → Int32))} {x0 : Nat} {x1 : Int32} {x2 : Int32} {x3 : Int32} {x4 : Int32} {x5 : Int32} {x6 : Int32} {x7 : Int32} {s : xS} {o : xH × Option Value} {r : ((Int32 × Int32 × Int32 × Int32 × Int32 × xS) ⊕ ((Int32 × Int32 × Int32 × Int32 × Int32 × xS) ⊕ (xS × Unit)))} (k0 : oK x0 5 = true) (h : f57_84 x0 x1 x2 x3 x4 x5 x6 x7 s = some r) (hr : dn57_27 sc x0 x5 o r) : Ev sc 2 57 [] 84 [some (.ref x0), some (.int x1), some (.int x2), some (.int x3), some (.int x4), some (.int x5), some (.int x6), some (.int x7), none] [] (hk_of s) o := by
  unfold f57_84 at h
  refine E_blk rfl ?_
  refine E_ps 1 (pc' := 85) (l' := [some (.ref x0), some (.int x1), some (.int x2), some (.int x3), some (.int x4), some (.int x5), some (.int x6), some (.int x7), none]) (st' := [.int (1 : Int32)]) rfl ?_
  refine E_j rfl rfl ?_
  exact E_wk (l' := [some (.ref x0), some (.int x1), some (.int x2), some (.int x3), some (.int x4), some (.int x5), some (.int x6), some (.int x7), none]) ⟨rfl, rfl, rfl, rfl, rfl, rfl, rfl, rfl, trivial⟩ (s57_89 k0 h hr)
noncomputable def f57_27 (x0 : Nat) (x1 : Int32) (x2 : Int32) (x3 : Int32) (x4 : Int32) (x5 : Int32) (x6 : Int32) (s : xS) : Option ((Int32 × Int32 × Int32 × Int32 × Int32 × xS) ⊕ ((Int32 × Int32 × Int32 × Int32 × Int32 × xS) ⊕ (xS × Unit))) := if (s.1 x0 5) ≤ x6 then (Option.map Sum.inr (some (Sum.inl (x1, x2, x3, x4, (x5 + (1 : Int32)), s)))) else ((f58 x0 x5 x6 s).bind fun z2 => if x2 = (-1 : Int32) then (f57_84 x0 x1 x2 x3 x4 x5 x6 (((z2.1.1 x0 8) * (z2.1.1 x0 5)) + ((z2.1.1 x0 9) * (z2.1.1 x0 6))) z2.1) else (if (x3 * (z2.1.1 x0 11)) ≤ ((((z2.1.1 x0 8) * (z2.1.1 x0 5)) + ((z2.1.1 x0 9) * (z2.1.1 x0 6))) * x4) then (f57_89 x0 x1 x2 x3 x4 x5 x6 (((z2.1.1 x0 8) * (z2.1.1 x0 5)) + ((z2.1.1 x0 9) * (z2.1.1 x0 6))) (0 : Int32) z2.1) else (f57_84 x0 x1 x2 x3 x4 x5 x6 (((z2.1.1 x0 8) * (z2.1.1 x0 5)) + ((z2.1.1 x0 9) * (z2.1.1 x0 6))) z2.1)))
set_option maxRecDepth 20000 in
theorem s57_27 {sc : Option (Nat × (Nat → Int32))} {x0 : Nat} {x1 : Int32} {x2 : Int32} {x3 : Int32} {x4 : Int32} {x5 : Int32} {x6 : Int32} {s : xS} {o : xH × Option Value} {r : ((Int32 × Int32 × Int32 × Int32 × Int32 × xS) ⊕ ((Int32 × Int32 × Int32 × Int32 × Int32 × xS) ⊕ (xS × Unit)))} (k0 : oK x0 5 = true) (h : f57_27 x0 x1 x2 x3 x4 x5 x6 s = some r) (hr : dn57_27 sc x0 x5 o r) : Ev sc 2 57 [] 27 [some (.ref x0), some (.int x1), some (.int x2), some (.int x3), some (.int x4), some (.int x5), some (.int x6), none, none] [] (hk_of s) o := by
  unfold f57_27 at h
  refine E_blk rfl ?_
  refine E_ps 2 (pc' := 30) (l' := [some (.ref x0), some (.int x1), some (.int x2), some (.int x3), some (.int x4), some (.int x5), some (.int x6), none, none]) (st' := [.ref x0, .int x6]) rfl ?_
  refine E_gi k0 (by decide) rfl ?_
  by_cases c1 : (s.1 x0 5) ≤ x6
  · rw [if_pos c1] at h
    refine E_jt rfl rfl c1 ?_
    obtain ⟨r, h, hr⟩ := lf_some (Dn := dn57_27 sc x0 x5 o) h hr
    refine E_blk rfl ?_
    refine E_ps 1 (pc' := 128) (l' := [some (.ref x0), some (.int x1), some (.int x2), some (.int x3), some (.int x4), some (.int (x5 + (1 : Int32))), some (.int x6), none, none]) (st' := []) rfl ?_
    refine E_j rfl rfl ?_
    cases h
    exact E_wk (l' := [some (.ref x0), some (.int x1), some (.int x2), some (.int x3), some (.int x4), some (.int (x5 + (1 : Int32))), none, none, none]) ⟨rfl, rfl, rfl, rfl, rfl, rfl, trivial⟩ hr
  · rw [if_neg c1] at h
    refine E_jf rfl rfl c1 ?_
    refine E_blk rfl ?_
    refine E_ps 3 (pc' := 41) (l' := [some (.ref x0), some (.int x1), some (.int x2), some (.int x3), some (.int x4), some (.int x5), some (.int x6), none, none]) (st' := [.int x6, .int x5, .ref x0]) rfl ?_
    obtain ⟨z2, e3, h⟩ := Option.bind_eq_some_iff.mp h
    refine E_callV (vs := [.ref x0, .int x5, .int x6]) (rest := []) rfl (by decide) rfl rfl (Nat.le_of_ble_eq_true rfl) (s58 e3) (by decide) ?_
    refine E_ps 1 (pc' := 45) (l' := [some (.ref x0), some (.int x1), some (.int x2), some (.int x3), some (.int x4), some (.int x5), some (.int x6), none, none]) (st' := [.ref x0]) rfl ?_
    refine E_gi k0 (by decide) rfl ?_
    refine E_ps 1 (pc' := 49) (l' := [some (.ref x0), some (.int x1), some (.int x2), some (.int x3), some (.int x4), some (.int x5), some (.int x6), none, none]) (st' := [.ref x0, .int (z2.1.1 x0 8)]) rfl ?_
    refine E_gi k0 (by decide) rfl ?_
    refine E_ps 2 (pc' := 54) (l' := [some (.ref x0), some (.int x1), some (.int x2), some (.int x3), some (.int x4), some (.int x5), some (.int x6), none, none]) (st' := [.ref x0, .int ((z2.1.1 x0 8) * (z2.1.1 x0 5))]) rfl ?_
    refine E_gi k0 (by decide) rfl ?_
    refine E_ps 1 (pc' := 58) (l' := [some (.ref x0), some (.int x1), some (.int x2), some (.int x3), some (.int x4), some (.int x5), some (.int x6), none, none]) (st' := [.ref x0, .int (z2.1.1 x0 9), .int ((z2.1.1 x0 8) * (z2.1.1 x0 5))]) rfl ?_
    refine E_gi k0 (by decide) rfl ?_
    refine E_ps 5 (pc' := 67) (l' := [some (.ref x0), some (.int x1), some (.int x2), some (.int x3), some (.int x4), some (.int x5), some (.int x6), some (.int (((z2.1.1 x0 8) * (z2.1.1 x0 5)) + ((z2.1.1 x0 9) * (z2.1.1 x0 6)))), none]) (st' := [.int (-1 : Int32), .int x2]) rfl ?_
    by_cases c4 : x2 = (-1 : Int32)
    · rw [if_pos c4] at h
      refine E_jt rfl rfl c4 ?_
      exact E_wk (l' := [some (.ref x0), some (.int x1), some (.int x2), some (.int x3), some (.int x4), some (.int x5), some (.int x6), some (.int (((z2.1.1 x0 8) * (z2.1.1 x0 5)) + ((z2.1.1 x0 9) * (z2.1.1 x0 6)))), none]) ⟨rfl, rfl, rfl, rfl, rfl, rfl, rfl, rfl, trivial⟩ (s57_84 k0 h hr)
    · rw [if_neg c4] at h
      refine E_jf rfl rfl c4 ?_
      refine E_blk rfl ?_
      refine E_ps 5 (pc' := 77) (l' := [some (.ref x0), some (.int x1), some (.int x2), some (.int x3), some (.int x4), some (.int x5), some (.int x6), some (.int (((z2.1.1 x0 8) * (z2.1.1 x0 5)) + ((z2.1.1 x0 9) * (z2.1.1 x0 6)))), none]) (st' := [.ref x0, .int x3, .int ((((z2.1.1 x0 8) * (z2.1.1 x0 5)) + ((z2.1.1 x0 9) * (z2.1.1 x0 6))) * x4)]) rfl ?_
      refine E_gi k0 (by decide) rfl ?_
      refine E_ps 1 (pc' := 81) (l' := [some (.ref x0), some (.int x1), some (.int x2), some (.int x3), some (.int x4), some (.int x5), some (.int x6), some (.int (((z2.1.1 x0 8) * (z2.1.1 x0 5)) + ((z2.1.1 x0 9) * (z2.1.1 x0 6)))), none]) (st' := [.int (x3 * (z2.1.1 x0 11)), .int ((((z2.1.1 x0 8) * (z2.1.1 x0 5)) + ((z2.1.1 x0 9) * (z2.1.1 x0 6))) * x4)]) rfl ?_
      by_cases c5 : (x3 * (z2.1.1 x0 11)) ≤ ((((z2.1.1 x0 8) * (z2.1.1 x0 5)) + ((z2.1.1 x0 9) * (z2.1.1 x0 6))) * x4)
      · rw [if_pos c5] at h
        refine E_jt rfl rfl c5 ?_
        refine E_blk rfl ?_
        refine E_ps 1 (pc' := 89) (l' := [some (.ref x0), some (.int x1), some (.int x2), some (.int x3), some (.int x4), some (.int x5), some (.int x6), some (.int (((z2.1.1 x0 8) * (z2.1.1 x0 5)) + ((z2.1.1 x0 9) * (z2.1.1 x0 6)))), none]) (st' := [.int (0 : Int32)]) rfl ?_
        exact E_wk (l' := [some (.ref x0), some (.int x1), some (.int x2), some (.int x3), some (.int x4), some (.int x5), some (.int x6), some (.int (((z2.1.1 x0 8) * (z2.1.1 x0 5)) + ((z2.1.1 x0 9) * (z2.1.1 x0 6)))), none]) ⟨rfl, rfl, rfl, rfl, rfl, rfl, rfl, rfl, trivial⟩ (s57_89 k0 h hr)
      · rw [if_neg c5] at h
        refine E_jf rfl rfl c5 ?_
        exact E_wk (l' := [some (.ref x0), some (.int x1), some (.int x2), some (.int x3), some (.int x4), some (.int x5), some (.int x6), some (.int (((z2.1.1 x0 8) * (z2.1.1 x0 5)) + ((z2.1.1 x0 9) * (z2.1.1 x0 6)))), none]) ⟨rfl, rfl, rfl, rfl, rfl, rfl, rfl, rfl, trivial⟩ (s57_84 k0 h hr)
theorem s57_27_w {sc : Option (Nat × (Nat → Int32))} {x0 : Nat} {x1 : Int32} {x2 : Int32} {x3 : Int32} {x4 : Int32} {x5 : Int32} {x6 : Int32} {s : xS} {o : xH × Option Value} {r : ((Int32 × Int32 × Int32 × Int32 × Int32 × xS) ⊕ (xS × Unit))} (k0 : oK x0 5 = true) (h : whl (fun q : (Int32 × Int32 × Int32 × Int32 × Int32 × xS) => f57_27 x0 q.1 q.2.1 q.2.2.1 q.2.2.2.1 x5 q.2.2.2.2.1 q.2.2.2.2.2) (x1, x2, x3, x4, x6, s) = some r) (hr : dn57_12 sc x0 o r) : Ev sc 2 57 [] 27 [some (.ref x0), some (.int x1), some (.int x2), some (.int x3), some (.int x4), some (.int x5), some (.int x6), none, none] [] (hk_of s) o := by
  refine whl_snd (E := fun q : (Int32 × Int32 × Int32 × Int32 × Int32 × xS) => Ev sc 2 57 [] 27 [some (.ref x0), some (.int q.1), some (.int q.2.1), some (.int q.2.2.1), some (.int q.2.2.2.1), some (.int x5), some (.int q.2.2.2.2.1), none, none] [] (hk_of q.2.2.2.2.2) o) (P := fun r => dn57_12 sc x0 o r) (fun q r h hr => ?_) h hr
  exact s57_27 k0 h (by cases r <;> exact hr)
noncomputable def f57_147  (s : xS) : Option (xS × Unit) := some (s, ())
set_option maxRecDepth 20000 in
theorem s57_147 {sc : Option (Nat × (Nat → Int32))}  {s : xS} {o : xH × Option Value} {r : (xS × Unit)}  (h : f57_147  s = some r) (hr : dn57 o r) : Ev sc 2 57 [] 147 [none, none, none, none, none, none, none, none, none] [] (hk_of s) o := by
  unfold f57_147 at h
  refine E_blk rfl ?_
  cases h
  exact E_ret rfl (pg_mt_md (by decide)) rfl hr
noncomputable def f57_12 (x0 : Nat) (x1 : Int32) (x2 : Int32) (x3 : Int32) (x4 : Int32) (x5 : Int32) (s : xS) : Option ((Int32 × Int32 × Int32 × Int32 × Int32 × xS) ⊕ (xS × Unit)) := if (s.1 x0 5) ≤ x5 then (Option.map Sum.inr (if x2 = (-1 : Int32) then (f57_147  s) else ((f58 x0 x2 x1 s).bind fun z3 => (f51 x0 z3.1).bind fun z5 => f57_147  z5.1))) else (whl (fun q : (Int32 × Int32 × Int32 × Int32 × Int32 × xS) => f57_27 x0 q.1 q.2.1 q.2.2.1 q.2.2.2.1 x5 q.2.2.2.2.1 q.2.2.2.2.2) (x1, x2, x3, x4, (x5 + (1 : Int32)), s))
set_option maxRecDepth 20000 in
theorem s57_12 {sc : Option (Nat × (Nat → Int32))} {x0 : Nat} {x1 : Int32} {x2 : Int32} {x3 : Int32} {x4 : Int32} {x5 : Int32} {s : xS} {o : xH × Option Value} {r : ((Int32 × Int32 × Int32 × Int32 × Int32 × xS) ⊕ (xS × Unit))} (k0 : oK x0 5 = true) (h : f57_12 x0 x1 x2 x3 x4 x5 s = some r) (hr : dn57_12 sc x0 o r) : Ev sc 2 57 [] 12 [some (.ref x0), some (.int x1), some (.int x2), some (.int x3), some (.int x4), some (.int x5), none, none, none] [] (hk_of s) o := by
  unfold f57_12 at h
  refine E_blk rfl ?_
  refine E_ps 2 (pc' := 15) (l' := [some (.ref x0), some (.int x1), some (.int x2), some (.int x3), some (.int x4), some (.int x5), none, none, none]) (st' := [.ref x0, .int x5]) rfl ?_
  refine E_gi k0 (by decide) rfl ?_
  by_cases c1 : (s.1 x0 5) ≤ x5
  · rw [if_pos c1] at h
    refine E_jt rfl rfl c1 ?_
    obtain ⟨r, h, hr⟩ := lf_some (Dn := dn57_12 sc x0 o) h hr
    refine E_blk rfl ?_
    refine E_ps 2 (pc' := 133) (l' := [some (.ref x0), some (.int x1), some (.int x2), some (.int x3), some (.int x4), some (.int x5), none, none, none]) (st' := [.int (-1 : Int32), .int x2]) rfl ?_
    by_cases c2 : x2 = (-1 : Int32)
    · rw [if_pos c2] at h
      refine E_jt rfl rfl c2 ?_
      exact E_wk (l' := [none, none, none, none, none, none, none, none, none]) trivial (s57_147  h hr)
    · rw [if_neg c2] at h
      refine E_jf rfl rfl c2 ?_
      refine E_blk rfl ?_
      refine E_ps 3 (pc' := 139) (l' := [some (.ref x0), some (.int x1), some (.int x2), some (.int x3), some (.int x4), some (.int x5), none, none, none]) (st' := [.int x1, .int x2, .ref x0]) rfl ?_
      obtain ⟨z3, e4, h⟩ := Option.bind_eq_some_iff.mp h
      refine E_callV (vs := [.ref x0, .int x2, .int x1]) (rest := []) rfl (by decide) rfl rfl (Nat.le_of_ble_eq_true rfl) (s58 e4) (by decide) ?_
      refine E_ps 1 (pc' := 143) (l' := [some (.ref x0), some (.int x1), some (.int x2), some (.int x3), some (.int x4), some (.int x5), none, none, none]) (st' := [.ref x0]) rfl ?_
      obtain ⟨z5, e6, h⟩ := Option.bind_eq_some_iff.mp h
      refine E_callI (vs := [.ref x0]) (rest := []) rfl (by decide) rfl rfl (Nat.le_of_ble_eq_true rfl) (s51 e6) (by decide) ?_
      refine E_ps 1 (pc' := 147) (l' := [some (.ref x0), some (.int x1), some (.int x2), some (.int x3), some (.int x4), some (.int x5), none, none, none]) (st' := []) rfl ?_
      exact E_wk (l' := [none, none, none, none, none, none, none, none, none]) trivial (s57_147  h hr)
  · rw [if_neg c1] at h
    refine E_jf rfl rfl c1 ?_
    refine E_blk rfl ?_
    refine E_ps 4 (pc' := 27) (l' := [some (.ref x0), some (.int x1), some (.int x2), some (.int x3), some (.int x4), some (.int x5), some (.int (x5 + (1 : Int32))), none, none]) (st' := []) rfl ?_
    exact E_wk (l' := [some (.ref x0), some (.int x1), some (.int x2), some (.int x3), some (.int x4), some (.int x5), some (.int (x5 + (1 : Int32))), none, none]) ⟨rfl, rfl, rfl, rfl, rfl, rfl, rfl, trivial⟩ (s57_27_w k0 h hr)
theorem s57_12_w {sc : Option (Nat × (Nat → Int32))} {x0 : Nat} {x1 : Int32} {x2 : Int32} {x3 : Int32} {x4 : Int32} {x5 : Int32} {s : xS} {o : xH × Option Value} {r : (xS × Unit)} (k0 : oK x0 5 = true) (h : whl (fun q : (Int32 × Int32 × Int32 × Int32 × Int32 × xS) => f57_12 x0 q.1 q.2.1 q.2.2.1 q.2.2.2.1 q.2.2.2.2.1 q.2.2.2.2.2) (x1, x2, x3, x4, x5, s) = some r) (hr : dn57 o r) : Ev sc 2 57 [] 12 [some (.ref x0), some (.int x1), some (.int x2), some (.int x3), some (.int x4), some (.int x5), none, none, none] [] (hk_of s) o := by
  refine whl_snd (E := fun q : (Int32 × Int32 × Int32 × Int32 × Int32 × xS) => Ev sc 2 57 [] 12 [some (.ref x0), some (.int q.1), some (.int q.2.1), some (.int q.2.2.1), some (.int q.2.2.2.1), some (.int q.2.2.2.2.1), none, none, none] [] (hk_of q.2.2.2.2.2) o) (P := fun r => dn57 o r) (fun q r h hr => ?_) h hr
  exact s57_12 k0 h (by cases r <;> exact hr)
noncomputable def f57 (x0 : Nat) (s : xS) : Option (xS × Unit) := ifg (oK x0 5 = true) <| whl (fun q : (Int32 × Int32 × Int32 × Int32 × Int32 × xS) => f57_12 x0 q.1 q.2.1 q.2.2.1 q.2.2.2.1 q.2.2.2.2.1 q.2.2.2.2.2) ((-1 : Int32), (-1 : Int32), (0 : Int32), (0 : Int32), (0 : Int32), s)
set_option maxRecDepth 20000 in
theorem s57 {sc : Option (Nat × (Nat → Int32))} {x0 : Nat} {s : xS} {r : xS × Unit} (h : f57 x0 s = some r) : Cl sc 2 57 [.ref x0] (hk_of s) (hk_of r.1, none) := by
  unfold f57 at h
  obtain ⟨k0, h⟩ := ifg_some h
  refine ⟨pg_md 57, [some (.ref x0), none, none, none, none, none, none, none, none], pg_mt_md (by decide), (hk_rcv k0), rfl, ?_⟩
  generalize ho : ((hk_of r.1, none) : xH × Option Value) = o
  have hr : dn57 o r := ho.symm
  refine E_blk rfl ?_
  refine E_ps 10 (pc' := 12) (l' := [some (.ref x0), some (.int (-1 : Int32)), some (.int (-1 : Int32)), some (.int (0 : Int32)), some (.int (0 : Int32)), some (.int (0 : Int32)), none, none, none]) (st' := []) rfl ?_
  exact E_wk (l' := [some (.ref x0), some (.int (-1 : Int32)), some (.int (-1 : Int32)), some (.int (0 : Int32)), some (.int (0 : Int32)), some (.int (0 : Int32)), none, none, none]) ⟨rfl, rfl, rfl, rfl, rfl, rfl, trivial⟩ (s57_12_w k0 h hr)

-- 66: ThreePlates$Shop.hasPlate(I)Z
def dn66 (o : xH × Option Value) (r : xS × Int32) : Prop := o = (hk_of r.1, some (.int r.2))
noncomputable def f66_17 (y0 : Int32) (s : xS) : Option (xS × Int32) := ifg (y0 = 0 ∨ y0 = 1) <| some (s, y0)
set_option maxRecDepth 20000 in
theorem s66_17 {sc : Option (Nat × (Nat → Int32))} {y0 : Int32} {s : xS} {o : xH × Option Value} {r : (xS × Int32)}  (h : f66_17 y0 s = some r) (hr : dn66 o r) : Ev sc 1 66 [] 17 [none, none] [.int y0] (hk_of s) o := by
  unfold f66_17 at h
  refine E_blk rfl ?_
  obtain ⟨g1, h⟩ := ifg_some h
  cases h
  exact E_ret rfl (pg_mt_md (by decide)) (hk_retz g1 rfl) hr
noncomputable def f66_16  (s : xS) : Option (xS × Int32) := f66_17 (0 : Int32) s
set_option maxRecDepth 20000 in
theorem s66_16 {sc : Option (Nat × (Nat → Int32))}  {s : xS} {o : xH × Option Value} {r : (xS × Int32)}  (h : f66_16  s = some r) (hr : dn66 o r) : Ev sc 1 66 [] 16 [none, none] [] (hk_of s) o := by
  unfold f66_16 at h
  refine E_blk rfl ?_
  refine E_ps 1 (pc' := 17) (l' := [none, none]) (st' := [.int (0 : Int32)]) rfl ?_
  exact E_wk (l' := [none, none]) trivial (s66_17  h hr)
noncomputable def f66 (x0 : Nat) (x1 : Int32) (s : xS) : Option (xS × Int32) := ifg (oK x0 7 = true) <| if x1 < 0 then (f66_16  s) else (if (s.1 x0 2) ≤ x1 then (f66_16  s) else (f66_17 (1 : Int32) s))
set_option maxRecDepth 20000 in
theorem s66 {sc : Option (Nat × (Nat → Int32))} {x0 : Nat} {x1 : Int32} {s : xS} {r : xS × Int32} (h : f66 x0 x1 s = some r) : Cl sc 1 66 [.ref x0, .int x1] (hk_of s) (hk_of r.1, some (.int r.2)) := by
  unfold f66 at h
  obtain ⟨k0, h⟩ := ifg_some h
  refine ⟨pg_md 66, [some (.ref x0), some (.int x1)], pg_mt_md (by decide), (hk_rcv k0), rfl, ?_⟩
  generalize ho : ((hk_of r.1, some (Value.int r.2)) : xH × Option Value) = o
  have hr : dn66 o r := ho.symm
  refine E_blk rfl ?_
  refine E_ps 1 (pc' := 1) (l' := [some (.ref x0), some (.int x1)]) (st' := [.int x1]) rfl ?_
  by_cases c1 : x1 < 0
  · rw [if_pos c1] at h
    refine E_jt rfl rfl c1 ?_
    exact E_wk (l' := [none, none]) trivial (s66_16  h hr)
  · rw [if_neg c1] at h
    refine E_jf rfl rfl c1 ?_
    refine E_blk rfl ?_
    refine E_ps 2 (pc' := 6) (l' := [some (.ref x0), some (.int x1)]) (st' := [.ref x0, .int x1]) rfl ?_
    refine E_gi k0 (by decide) rfl ?_
    by_cases c2 : (s.1 x0 2) ≤ x1
    · rw [if_pos c2] at h
      refine E_jt rfl rfl c2 ?_
      exact E_wk (l' := [none, none]) trivial (s66_16  h hr)
    · rw [if_neg c2] at h
      refine E_jf rfl rfl c2 ?_
      refine E_blk rfl ?_
      refine E_ps 1 (pc' := 13) (l' := [some (.ref x0), some (.int x1)]) (st' := [.int (1 : Int32)]) rfl ?_
      refine E_j rfl rfl ?_
      exact E_wk (l' := [none, none]) trivial (s66_17  h hr)

-- 67: ThreePlates$Shop.hasCell(II)Z
def dn67 (o : xH × Option Value) (r : xS × Int32) : Prop := o = (hk_of r.1, some (.int r.2))
noncomputable def f67_30 (y0 : Int32) (s : xS) : Option (xS × Int32) := ifg (y0 = 0 ∨ y0 = 1) <| some (s, y0)
set_option maxRecDepth 20000 in
theorem s67_30 {sc : Option (Nat × (Nat → Int32))} {y0 : Int32} {s : xS} {o : xH × Option Value} {r : (xS × Int32)}  (h : f67_30 y0 s = some r) (hr : dn67 o r) : Ev sc 2 67 [] 30 [none, none, none] [.int y0] (hk_of s) o := by
  unfold f67_30 at h
  refine E_blk rfl ?_
  obtain ⟨g1, h⟩ := ifg_some h
  cases h
  exact E_ret rfl (pg_mt_md (by decide)) (hk_retz g1 rfl) hr
noncomputable def f67_29  (s : xS) : Option (xS × Int32) := f67_30 (0 : Int32) s
set_option maxRecDepth 20000 in
theorem s67_29 {sc : Option (Nat × (Nat → Int32))}  {s : xS} {o : xH × Option Value} {r : (xS × Int32)}  (h : f67_29  s = some r) (hr : dn67 o r) : Ev sc 2 67 [] 29 [none, none, none] [] (hk_of s) o := by
  unfold f67_29 at h
  refine E_blk rfl ?_
  refine E_ps 1 (pc' := 30) (l' := [none, none, none]) (st' := [.int (0 : Int32)]) rfl ?_
  exact E_wk (l' := [none, none, none]) trivial (s67_30  h hr)
noncomputable def f67 (x0 : Nat) (x1 : Int32) (x2 : Int32) (s : xS) : Option (xS × Int32) := ifg (oK x0 7 = true) <| (f66 x0 x1 s).bind fun z1 => if z1.2 = 0 then (f67_29  z1.1) else (if x2 < 0 then (f67_29  z1.1) else (if ((z1.1.1 x0 3) * (z1.1.1 x0 3)) ≤ x2 then (f67_29  z1.1) else (f67_30 (1 : Int32) z1.1)))
set_option maxRecDepth 20000 in
theorem s67 {sc : Option (Nat × (Nat → Int32))} {x0 : Nat} {x1 : Int32} {x2 : Int32} {s : xS} {r : xS × Int32} (h : f67 x0 x1 x2 s = some r) : Cl sc 2 67 [.ref x0, .int x1, .int x2] (hk_of s) (hk_of r.1, some (.int r.2)) := by
  unfold f67 at h
  obtain ⟨k0, h⟩ := ifg_some h
  refine ⟨pg_md 67, [some (.ref x0), some (.int x1), some (.int x2)], pg_mt_md (by decide), (hk_rcv k0), rfl, ?_⟩
  generalize ho : ((hk_of r.1, some (Value.int r.2)) : xH × Option Value) = o
  have hr : dn67 o r := ho.symm
  refine E_blk rfl ?_
  refine E_ps 2 (pc' := 2) (l' := [some (.ref x0), some (.int x1), some (.int x2)]) (st' := [.int x1, .ref x0]) rfl ?_
  obtain ⟨z1, e2, h⟩ := Option.bind_eq_some_iff.mp h
  refine E_callI (vs := [.ref x0, .int x1]) (rest := []) rfl (by decide) rfl rfl (Nat.le_of_ble_eq_true rfl) (s66 e2) (by decide) ?_
  by_cases c3 : z1.2 = 0
  · rw [if_pos c3] at h
    refine E_jt rfl rfl c3 ?_
    exact E_wk (l' := [none, none, none]) trivial (s67_29  h hr)
  · rw [if_neg c3] at h
    refine E_jf rfl rfl c3 ?_
    refine E_blk rfl ?_
    refine E_ps 1 (pc' := 9) (l' := [some (.ref x0), some (.int x1), some (.int x2)]) (st' := [.int x2]) rfl ?_
    by_cases c4 : x2 < 0
    · rw [if_pos c4] at h
      refine E_jt rfl rfl c4 ?_
      exact E_wk (l' := [none, none, none]) trivial (s67_29  h hr)
    · rw [if_neg c4] at h
      refine E_jf rfl rfl c4 ?_
      refine E_blk rfl ?_
      refine E_ps 2 (pc' := 14) (l' := [some (.ref x0), some (.int x1), some (.int x2)]) (st' := [.ref x0, .int x2]) rfl ?_
      refine E_gi k0 (by decide) rfl ?_
      refine E_ps 1 (pc' := 18) (l' := [some (.ref x0), some (.int x1), some (.int x2)]) (st' := [.ref x0, .int (z1.1.1 x0 3), .int x2]) rfl ?_
      refine E_gi k0 (by decide) rfl ?_
      refine E_ps 1 (pc' := 22) (l' := [some (.ref x0), some (.int x1), some (.int x2)]) (st' := [.int ((z1.1.1 x0 3) * (z1.1.1 x0 3)), .int x2]) rfl ?_
      by_cases c5 : ((z1.1.1 x0 3) * (z1.1.1 x0 3)) ≤ x2
      · rw [if_pos c5] at h
        refine E_jt rfl rfl c5 ?_
        exact E_wk (l' := [none, none, none]) trivial (s67_29  h hr)
      · rw [if_neg c5] at h
        refine E_jf rfl rfl c5 ?_
        refine E_blk rfl ?_
        refine E_ps 1 (pc' := 26) (l' := [some (.ref x0), some (.int x1), some (.int x2)]) (st' := [.int (1 : Int32)]) rfl ?_
        refine E_j rfl rfl ?_
        exact E_wk (l' := [none, none, none]) trivial (s67_30  h hr)

-- 69: ThreePlates$Shop.squareOfWay(II)I
def dn69 (o : xH × Option Value) (r : xS × Int32) : Prop := o = (hk_of r.1, some (.int r.2))
noncomputable def f69 (x0 : Nat) (x1 : Int32) (x2 : Int32) (s : xS) : Option (xS × Int32) := ifg (oK x0 7 = true) <| ifg (¬ (s.1 x0 3) = 0) <| ifg (¬ (s.1 x0 3) = 0) <| ifg (¬ (s.1 x0 3) = 0) <| ifg (¬ (s.1 x0 3) = 0) <| some (s, ((((irm x1 (s.1 x0 3)) - (irm x2 (s.1 x0 3))) * ((irm x1 (s.1 x0 3)) - (irm x2 (s.1 x0 3)))) + (((x1 / (s.1 x0 3)) - (x2 / (s.1 x0 3))) * ((x1 / (s.1 x0 3)) - (x2 / (s.1 x0 3))))))
set_option maxRecDepth 20000 in
theorem s69 {sc : Option (Nat × (Nat → Int32))} {x0 : Nat} {x1 : Int32} {x2 : Int32} {s : xS} {r : xS × Int32} (h : f69 x0 x1 x2 s = some r) : Cl sc 1 69 [.ref x0, .int x1, .int x2] (hk_of s) (hk_of r.1, some (.int r.2)) := by
  unfold f69 at h
  obtain ⟨k0, h⟩ := ifg_some h
  refine ⟨pg_md 69, [some (.ref x0), some (.int x1), some (.int x2), none, none], pg_mt_md (by decide), (hk_rcv k0), rfl, ?_⟩
  generalize ho : ((hk_of r.1, some (Value.int r.2)) : xH × Option Value) = o
  have hr : dn69 o r := ho.symm
  refine E_blk rfl ?_
  refine E_ps 2 (pc' := 2) (l' := [some (.ref x0), some (.int x1), some (.int x2), none, none]) (st' := [.ref x0, .int x1]) rfl ?_
  refine E_gi k0 (by decide) rfl ?_
  obtain ⟨g1, h⟩ := ifg_some h
  refine E_irem g1 ?_
  refine E_ps 2 (pc' := 8) (l' := [some (.ref x0), some (.int x1), some (.int x2), none, none]) (st' := [.ref x0, .int x2, .int (irm x1 (s.1 x0 3))]) rfl ?_
  refine E_gi k0 (by decide) rfl ?_
  obtain ⟨g2, h⟩ := ifg_some h
  refine E_irem g2 ?_
  refine E_ps 4 (pc' := 16) (l' := [some (.ref x0), some (.int x1), some (.int x2), some (.int ((irm x1 (s.1 x0 3)) - (irm x2 (s.1 x0 3)))), none]) (st' := [.ref x0, .int x1]) rfl ?_
  refine E_gi k0 (by decide) rfl ?_
  obtain ⟨g3, h⟩ := ifg_some h
  refine E_idiv g3 ?_
  refine E_ps 2 (pc' := 22) (l' := [some (.ref x0), some (.int x1), some (.int x2), some (.int ((irm x1 (s.1 x0 3)) - (irm x2 (s.1 x0 3)))), none]) (st' := [.ref x0, .int x2, .int (x1 / (s.1 x0 3))]) rfl ?_
  refine E_gi k0 (by decide) rfl ?_
  obtain ⟨g4, h⟩ := ifg_some h
  refine E_idiv g4 ?_
  refine E_ps 9 (pc' := 38) (l' := [some (.ref x0), some (.int x1), some (.int x2), some (.int ((irm x1 (s.1 x0 3)) - (irm x2 (s.1 x0 3)))), some (.int ((x1 / (s.1 x0 3)) - (x2 / (s.1 x0 3))))]) (st' := [.int ((((irm x1 (s.1 x0 3)) - (irm x2 (s.1 x0 3))) * ((irm x1 (s.1 x0 3)) - (irm x2 (s.1 x0 3)))) + (((x1 / (s.1 x0 3)) - (x2 / (s.1 x0 3))) * ((x1 / (s.1 x0 3)) - (x2 / (s.1 x0 3)))))]) rfl ?_
  cases h
  exact E_ret rfl (pg_mt_md (by decide)) rfl hr

-- 71: ThreePlates$Shop.become(LThreePlates$Shop;)V
def dn71 (o : xH × Option Value) (r : xS × Unit) : Prop := o = (hk_of r.1, none)
noncomputable def f71 (x0 : Nat) (x1 : Nat) (s : xS) : Option (xS × Unit) := ifg (oK x0 7 = true) <| ifg (oK x1 7 = true) <| (hk_R x1 0).bind fun a1 => (hk_R x0 0).bind fun a3 => (hk_R x0 0).bind fun a5 => (aN a5).bind fun v7 => (cpI s a1 (0 : Int32) a3 (0 : Int32) v7).bind fun t9 => (hk_R x1 1).bind fun a11 => (hk_R x0 1).bind fun a13 => (hk_R x0 1).bind fun a15 => (aN a15).bind fun v17 => (cpI t9 a11 (0 : Int32) a13 (0 : Int32) v17).bind fun t19 => (pI t19 x0 2 (t19.1 x1 2)).bind fun t21 => (pI t21 x0 3 (t21.1 x1 3)).bind fun t23 => (pI t23 x0 4 (t23.1 x1 4)).bind fun t25 => (pI t25 x0 5 (t25.1 x1 5)).bind fun t27 => some (t27, ())
set_option maxRecDepth 20000 in
theorem s71 {sc : Option (Nat × (Nat → Int32))} {x0 : Nat} {x1 : Nat} {s : xS} {r : xS × Unit} (h : f71 x0 x1 s = some r) : Cl sc 1 71 [.ref x0, .ref x1] (hk_of s) (hk_of r.1, none) := by
  unfold f71 at h
  obtain ⟨k0, h⟩ := ifg_some h
  obtain ⟨k1, h⟩ := ifg_some h
  refine ⟨pg_md 71, [some (.ref x0), some (.ref x1)], pg_mt_md (by decide), (hk_rcv k0), rfl, ?_⟩
  generalize ho : ((hk_of r.1, none) : xH × Option Value) = o
  have hr : dn71 o r := ho.symm
  refine E_blk rfl ?_
  refine E_ps 1 (pc' := 1) (l' := [some (.ref x0), some (.ref x1)]) (st' := [.ref x1]) rfl ?_
  obtain ⟨a1, e2, h⟩ := Option.bind_eq_some_iff.mp h
  refine E_gr k1 (by decide) rfl e2 ?_
  refine E_ps 2 (pc' := 6) (l' := [some (.ref x0), some (.ref x1)]) (st' := [.ref x0, .int (0 : Int32), .ref a1]) rfl ?_
  obtain ⟨a3, e4, h⟩ := Option.bind_eq_some_iff.mp h
  refine E_gr k0 (by decide) rfl e4 ?_
  refine E_ps 2 (pc' := 11) (l' := [some (.ref x0), some (.ref x1)]) (st' := [.ref x0, .int (0 : Int32), .ref a3, .int (0 : Int32), .ref a1]) rfl ?_
  obtain ⟨a5, e6, h⟩ := Option.bind_eq_some_iff.mp h
  refine E_gr k0 (by decide) rfl e6 ?_
  obtain ⟨v7, e8, h⟩ := Option.bind_eq_some_iff.mp h
  refine E_an e8 ?_
  obtain ⟨t9, e10, h⟩ := Option.bind_eq_some_iff.mp h
  refine E_cp e10 (Nat.le_of_ble_eq_true rfl) ?_
  refine E_ps 1 (pc' := 19) (l' := [some (.ref x0), some (.ref x1)]) (st' := [.ref x1]) rfl ?_
  obtain ⟨a11, e12, h⟩ := Option.bind_eq_some_iff.mp h
  refine E_gr k1 (by decide) rfl e12 ?_
  refine E_ps 2 (pc' := 24) (l' := [some (.ref x0), some (.ref x1)]) (st' := [.ref x0, .int (0 : Int32), .ref a11]) rfl ?_
  obtain ⟨a13, e14, h⟩ := Option.bind_eq_some_iff.mp h
  refine E_gr k0 (by decide) rfl e14 ?_
  refine E_ps 2 (pc' := 29) (l' := [some (.ref x0), some (.ref x1)]) (st' := [.ref x0, .int (0 : Int32), .ref a13, .int (0 : Int32), .ref a11]) rfl ?_
  obtain ⟨a15, e16, h⟩ := Option.bind_eq_some_iff.mp h
  refine E_gr k0 (by decide) rfl e16 ?_
  obtain ⟨v17, e18, h⟩ := Option.bind_eq_some_iff.mp h
  refine E_an e18 ?_
  obtain ⟨t19, e20, h⟩ := Option.bind_eq_some_iff.mp h
  refine E_cp e20 (Nat.le_of_ble_eq_true rfl) ?_
  refine E_ps 2 (pc' := 38) (l' := [some (.ref x0), some (.ref x1)]) (st' := [.ref x1, .ref x0]) rfl ?_
  refine E_gi k1 (by decide) rfl ?_
  obtain ⟨t21, e22, h⟩ := Option.bind_eq_some_iff.mp h
  refine E_pi k0 (by decide) rfl e22 ?_
  refine E_ps 2 (pc' := 46) (l' := [some (.ref x0), some (.ref x1)]) (st' := [.ref x1, .ref x0]) rfl ?_
  refine E_gi k1 (by decide) rfl ?_
  obtain ⟨t23, e24, h⟩ := Option.bind_eq_some_iff.mp h
  refine E_pi k0 (by decide) rfl e24 ?_
  refine E_ps 2 (pc' := 54) (l' := [some (.ref x0), some (.ref x1)]) (st' := [.ref x1, .ref x0]) rfl ?_
  refine E_gi k1 (by decide) rfl ?_
  obtain ⟨t25, e26, h⟩ := Option.bind_eq_some_iff.mp h
  refine E_pi k0 (by decide) rfl e26 ?_
  refine E_ps 2 (pc' := 62) (l' := [some (.ref x0), some (.ref x1)]) (st' := [.ref x1, .ref x0]) rfl ?_
  refine E_gi k1 (by decide) rfl ?_
  obtain ⟨t27, e28, h⟩ := Option.bind_eq_some_iff.mp h
  refine E_pi k0 (by decide) rfl e28 ?_
  cases h
  exact E_ret rfl (pg_mt_md (by decide)) rfl hr

-- 74: ThreePlates$Shop.readSetting(LThreePlates$Tape;JII)Z
def dn74 (o : xH × Option Value) (r : xS × Int32) : Prop := o = (hk_of r.1, some (.int r.2))
noncomputable def f74_31 (y0 : Int32) (s : xS) : Option (xS × Int32) := ifg (y0 = 0 ∨ y0 = 1) <| some (s, y0)
set_option maxRecDepth 20000 in
theorem s74_31 {sc : Option (Nat × (Nat → Int32))} {y0 : Int32} {s : xS} {o : xH × Option Value} {r : (xS × Int32)}  (h : f74_31 y0 s = some r) (hr : dn74 o r) : Ev sc 5 74 [] 31 [none, none, none, none, none] [.int y0] (hk_of s) o := by
  unfold f74_31 at h
  refine E_blk rfl ?_
  obtain ⟨g1, h⟩ := ifg_some h
  cases h
  exact E_ret rfl (pg_mt_md (by decide)) (hk_retz g1 rfl) hr
noncomputable def f74_30  (s : xS) : Option (xS × Int32) := f74_31 (0 : Int32) s
set_option maxRecDepth 20000 in
theorem s74_30 {sc : Option (Nat × (Nat → Int32))}  {s : xS} {o : xH × Option Value} {r : (xS × Int32)}  (h : f74_30  s = some r) (hr : dn74 o r) : Ev sc 5 74 [] 30 [none, none, none, none, none] [] (hk_of s) o := by
  unfold f74_30 at h
  refine E_blk rfl ?_
  refine E_ps 1 (pc' := 31) (l' := [none, none, none, none, none]) (st' := [.int (0 : Int32)]) rfl ?_
  exact E_wk (l' := [none, none, none, none, none]) trivial (s74_31  h hr)
noncomputable def f74 (x0 : Nat) (x1 : Int64) (x3 : Int32) (x4 : Int32) (s : xS) : Option (xS × Int32) := ifg (oK x0 8 = true) <| (f83 x0 x1 s).bind fun z1 => if z1.2 = 0 then (f74_30  z1.1) else ((f86 x0 (0 : Int32) x3 x4 z1.1).bind fun z4 => if z4.2 = 0 then (f74_30  z4.1) else ((f84 x0 z4.1).bind fun z7 => if z7.2 = 0 then (f74_30  z7.1) else (f74_31 (1 : Int32) z7.1)))
set_option maxRecDepth 20000 in
theorem s74 {sc : Option (Nat × (Nat → Int32))} {x0 : Nat} {x1 : Int64} {x3 : Int32} {x4 : Int32} {s : xS} {r : xS × Int32} (h : f74 x0 x1 x3 x4 s = some r) : Cl sc 5 74 [.ref x0, .long x1, .int x3, .int x4] (hk_of s) (hk_of r.1, some (.int r.2)) := by
  unfold f74 at h
  obtain ⟨k0, h⟩ := ifg_some h
  refine ⟨pg_md 74, [some (.ref x0), some (.long x1), none, some (.int x3), some (.int x4)], pg_mt_md (by decide), rfl, rfl, ?_⟩
  generalize ho : ((hk_of r.1, some (Value.int r.2)) : xH × Option Value) = o
  have hr : dn74 o r := ho.symm
  refine E_blk rfl ?_
  refine E_ps 2 (pc' := 2) (l' := [some (.ref x0), some (.long x1), none, some (.int x3), some (.int x4)]) (st' := [.long x1, .ref x0]) rfl ?_
  obtain ⟨z1, e2, h⟩ := Option.bind_eq_some_iff.mp h
  refine E_callI (vs := [.ref x0, .long x1]) (rest := []) rfl (by decide) rfl rfl (Nat.le_of_ble_eq_true rfl) (s83 e2) (by decide) ?_
  by_cases c3 : z1.2 = 0
  · rw [if_pos c3] at h
    refine E_jt rfl rfl c3 ?_
    exact E_wk (l' := [none, none, none, none, none]) trivial (s74_30  h hr)
  · rw [if_neg c3] at h
    refine E_jf rfl rfl c3 ?_
    refine E_blk rfl ?_
    refine E_ps 4 (pc' := 13) (l' := [some (.ref x0), some (.long x1), none, some (.int x3), some (.int x4)]) (st' := [.int x4, .int x3, .int (0 : Int32), .ref x0]) rfl ?_
    obtain ⟨z4, e5, h⟩ := Option.bind_eq_some_iff.mp h
    refine E_callI (vs := [.ref x0, .int (0 : Int32), .int x3, .int x4]) (rest := []) rfl (by decide) rfl rfl (Nat.le_of_ble_eq_true rfl) (s86 e5) (by decide) ?_
    by_cases c6 : z4.2 = 0
    · rw [if_pos c6] at h
      refine E_jt rfl rfl c6 ?_
      exact E_wk (l' := [none, none, none, none, none]) trivial (s74_30  h hr)
    · rw [if_neg c6] at h
      refine E_jf rfl rfl c6 ?_
      refine E_blk rfl ?_
      refine E_ps 1 (pc' := 20) (l' := [some (.ref x0), some (.long x1), none, some (.int x3), some (.int x4)]) (st' := [.ref x0]) rfl ?_
      obtain ⟨z7, e8, h⟩ := Option.bind_eq_some_iff.mp h
      refine E_callI (vs := [.ref x0]) (rest := []) rfl (by decide) rfl rfl (Nat.le_of_ble_eq_true rfl) (s84 e8) (by decide) ?_
      by_cases c9 : z7.2 = 0
      · rw [if_pos c9] at h
        refine E_jt rfl rfl c9 ?_
        exact E_wk (l' := [none, none, none, none, none]) trivial (s74_30  h hr)
      · rw [if_neg c9] at h
        refine E_jf rfl rfl c9 ?_
        refine E_blk rfl ?_
        refine E_ps 1 (pc' := 27) (l' := [some (.ref x0), some (.long x1), none, some (.int x3), some (.int x4)]) (st' := [.int (1 : Int32)]) rfl ?_
        refine E_j rfl rfl ?_
        exact E_wk (l' := [none, none, none, none, none]) trivial (s74_31  h hr)
