-- 210: ThreePlatesModel.isOverAll(I)Z
def dn210 (o : xH × Option Value) (r : xS × Int32) : Prop := o = (hk_of r.1, some (.int r.2))
def dn210_2 (sc : Option (Nat × (Nat → Int32))) (x0 : Nat) (x1 : Int32) (o : xH × Option Value) (r : ((Int32 × xS) ⊕ (xS × Int32))) : Prop := match r with
  | .inl q => Ev sc 3 210 [] 2 [some (.ref x0), some (.int x1), some (.int q.1)] [] (hk_of q.2) o
  | .inr r => dn210 o r
noncomputable def f210_44 (x0 : Nat) (x1 : Int32) (x2 : Int32) (s : xS) : Option ((Int32 × xS) ⊕ (xS × Int32)) := some (Sum.inl ((x2 + (1 : Int32)), s))
set_option maxRecDepth 20000 in
theorem s210_44 {sc : Option (Nat × (Nat → Int32))} {x0 : Nat} {x1 : Int32} {x2 : Int32} {s : xS} {o : xH × Option Value} {r : ((Int32 × xS) ⊕ (xS × Int32))} (k0 : oK x0 12 = true) (h : f210_44 x0 x1 x2 s = some r) (hr : dn210_2 sc x0 x1 o r) : Ev sc 3 210 [] 44 [some (.ref x0), some (.int x1), some (.int x2)] [] (hk_of s) o := by
  unfold f210_44 at h
  refine E_blk rfl ?_
  refine E_ps 1 (pc' := 47) (l' := [some (.ref x0), some (.int x1), some (.int (x2 + (1 : Int32)))]) (st' := []) rfl ?_
  refine E_j rfl rfl ?_
  cases h
  exact E_wk (l' := [some (.ref x0), some (.int x1), some (.int (x2 + (1 : Int32)))]) ⟨rfl, rfl, rfl, trivial⟩ hr
noncomputable def f210_2 (x0 : Nat) (x1 : Int32) (x2 : Int32) (s : xS) : Option ((Int32 × xS) ⊕ (xS × Int32)) := (f197 x0 s).bind fun z1 => if z1.2 ≤ x2 then (Option.map Sum.inr (some (z1.1, (1 : Int32)))) else ((hk_R x0 39).bind fun a4 => (aI z1.1 a4 x2).bind fun v6 => if v6 < 0 then (f210_44 x0 x1 x2 z1.1) else ((f209 x0 x2 x1 (z1.1.2 x0 46) (z1.1.2 x0 47) (z1.1.2 x0 48) z1.1).bind fun z9 => if 0 ≤ (lg_cmp z9.2 (0 : Int64)) then (f210_44 x0 x1 x2 z9.1) else (Option.map Sum.inr (some (z9.1, (0 : Int32))))))
set_option maxRecDepth 20000 in
theorem s210_2 {sc : Option (Nat × (Nat → Int32))} {x0 : Nat} {x1 : Int32} {x2 : Int32} {s : xS} {o : xH × Option Value} {r : ((Int32 × xS) ⊕ (xS × Int32))} (k0 : oK x0 12 = true) (h : f210_2 x0 x1 x2 s = some r) (hr : dn210_2 sc x0 x1 o r) : Ev sc 3 210 [] 2 [some (.ref x0), some (.int x1), some (.int x2)] [] (hk_of s) o := by
  unfold f210_2 at h
  refine E_blk rfl ?_
  refine E_ps 2 (pc' := 4) (l' := [some (.ref x0), some (.int x1), some (.int x2)]) (st' := [.ref x0, .int x2]) rfl ?_
  obtain ⟨z1, e2, h⟩ := Option.bind_eq_some_iff.mp h
  refine E_callI (vs := [.ref x0]) (rest := [.int x2]) rfl (by decide) rfl rfl (Nat.le_of_ble_eq_true rfl) (s197 e2) (by decide) ?_
  by_cases c3 : z1.2 ≤ x2
  · rw [if_pos c3] at h
    refine E_jt rfl rfl c3 ?_
    obtain ⟨r, h, hr⟩ := lf_some (Dn := dn210_2 sc x0 x1 o) h hr
    refine E_blk rfl ?_
    refine E_ps 1 (pc' := 51) (l' := [some (.ref x0), some (.int x1), some (.int x2)]) (st' := [.int (1 : Int32)]) rfl ?_
    cases h
    exact E_ret rfl (pg_mt_md (by decide)) rfl hr
  · rw [if_neg c3] at h
    refine E_jf rfl rfl c3 ?_
    refine E_blk rfl ?_
    refine E_ps 1 (pc' := 11) (l' := [some (.ref x0), some (.int x1), some (.int x2)]) (st' := [.ref x0]) rfl ?_
    obtain ⟨a4, e5, h⟩ := Option.bind_eq_some_iff.mp h
    refine E_gr k0 (by decide) rfl e5 ?_
    refine E_ps 1 (pc' := 15) (l' := [some (.ref x0), some (.int x1), some (.int x2)]) (st' := [.int x2, .ref a4]) rfl ?_
    obtain ⟨v6, e7, h⟩ := Option.bind_eq_some_iff.mp h
    refine E_ai e7 ?_
    by_cases c8 : v6 < 0
    · rw [if_pos c8] at h
      refine E_jt rfl rfl c8 ?_
      exact E_wk (l' := [some (.ref x0), some (.int x1), some (.int x2)]) ⟨rfl, rfl, rfl, trivial⟩ (s210_44 k0 h hr)
    · rw [if_neg c8] at h
      refine E_jf rfl rfl c8 ?_
      refine E_blk rfl ?_
      refine E_ps 4 (pc' := 23) (l' := [some (.ref x0), some (.int x1), some (.int x2)]) (st' := [.ref x0, .int x1, .int x2, .ref x0]) rfl ?_
      refine E_gl k0 (by decide) rfl ?_
      refine E_ps 1 (pc' := 27) (l' := [some (.ref x0), some (.int x1), some (.int x2)]) (st' := [.ref x0, .long (z1.1.2 x0 46), .int x1, .int x2, .ref x0]) rfl ?_
      refine E_gl k0 (by decide) rfl ?_
      refine E_ps 1 (pc' := 31) (l' := [some (.ref x0), some (.int x1), some (.int x2)]) (st' := [.ref x0, .long (z1.1.2 x0 47), .long (z1.1.2 x0 46), .int x1, .int x2, .ref x0]) rfl ?_
      refine E_gl k0 (by decide) rfl ?_
      obtain ⟨z9, e10, h⟩ := Option.bind_eq_some_iff.mp h
      refine E_callL (vs := [.ref x0, .int x2, .int x1, .long (z1.1.2 x0 46), .long (z1.1.2 x0 47), .long (z1.1.2 x0 48)]) (rest := []) rfl (by decide) rfl rfl (Nat.le_of_ble_eq_true rfl) (s209 e10) (by decide) ?_
      refine E_ps 2 (pc' := 39) (l' := [some (.ref x0), some (.int x1), some (.int x2)]) (st' := [.int (lg_cmp z9.2 (0 : Int64))]) rfl ?_
      by_cases c11 : 0 ≤ (lg_cmp z9.2 (0 : Int64))
      · rw [if_pos c11] at h
        refine E_jt rfl rfl c11 ?_
        exact E_wk (l' := [some (.ref x0), some (.int x1), some (.int x2)]) ⟨rfl, rfl, rfl, trivial⟩ (s210_44 k0 h hr)
      · rw [if_neg c11] at h
        refine E_jf rfl rfl c11 ?_
        obtain ⟨r, h, hr⟩ := lf_some (Dn := dn210_2 sc x0 x1 o) h hr
        refine E_blk rfl ?_
        refine E_ps 1 (pc' := 43) (l' := [some (.ref x0), some (.int x1), some (.int x2)]) (st' := [.int (0 : Int32)]) rfl ?_
        cases h
        exact E_ret rfl (pg_mt_md (by decide)) rfl hr
theorem s210_2_w {sc : Option (Nat × (Nat → Int32))} {x0 : Nat} {x1 : Int32} {x2 : Int32} {s : xS} {o : xH × Option Value} {r : (xS × Int32)} (k0 : oK x0 12 = true) (h : whl (fun q : (Int32 × xS) => f210_2 x0 x1 q.1 q.2) (x2, s) = some r) (hr : dn210 o r) : Ev sc 3 210 [] 2 [some (.ref x0), some (.int x1), some (.int x2)] [] (hk_of s) o := by
  refine whl_snd (E := fun q : (Int32 × xS) => Ev sc 3 210 [] 2 [some (.ref x0), some (.int x1), some (.int q.1)] [] (hk_of q.2) o) (P := fun r => dn210 o r) (fun q r h hr => ?_) h hr
  exact s210_2 k0 h (by cases r <;> exact hr)
noncomputable def f210 (x0 : Nat) (x1 : Int32) (s : xS) : Option (xS × Int32) := ifg (oK x0 12 = true) <| whl (fun q : (Int32 × xS) => f210_2 x0 x1 q.1 q.2) ((0 : Int32), s)
set_option maxRecDepth 20000 in
theorem s210 {sc : Option (Nat × (Nat → Int32))} {x0 : Nat} {x1 : Int32} {s : xS} {r : xS × Int32} (h : f210 x0 x1 s = some r) : Cl sc 3 210 [.ref x0, .int x1] (hk_of s) (hk_of r.1, some (.int r.2)) := by
  unfold f210 at h
  obtain ⟨k0, h⟩ := ifg_some h
  refine ⟨pg_md 210, [some (.ref x0), some (.int x1), none], pg_mt_md (by decide), (hk_rcv k0), rfl, ?_⟩
  generalize ho : ((hk_of r.1, some (Value.int r.2)) : xH × Option Value) = o
  have hr : dn210 o r := ho.symm
  refine E_blk rfl ?_
  refine E_ps 2 (pc' := 2) (l' := [some (.ref x0), some (.int x1), some (.int (0 : Int32))]) (st' := []) rfl ?_
  exact E_wk (l' := [some (.ref x0), some (.int x1), some (.int (0 : Int32))]) ⟨rfl, rfl, rfl, trivial⟩ (s210_2_w k0 h hr)

-- 211: ThreePlatesModel.middle(IJJJ)J
def dn211 (o : xH × Option Value) (r : xS × Int64) : Prop := o = (hk_of r.1, some (.long r.2))
def dn211_6 (sc : Option (Nat × (Nat → Int32))) (x0 : Nat) (x1 : Int32) (x2 : Int64) (x4 : Int64) (x6 : Int64) (o : xH × Option Value) (r : ((Int64 × Int32 × xS) ⊕ (xS × Int64))) : Prop := match r with
  | .inl q => Ev sc 3 211 [] 6 [some (.ref x0), some (.int x1), some (.long x2), none, some (.long x4), none, some (.long x6), none, some (.long q.1), none, some (.int q.2.1)] [] (hk_of q.2.2) o
  | .inr r => dn211 o r
noncomputable def f211_77 (x0 : Nat) (x1 : Int32) (x2 : Int64) (x4 : Int64) (x6 : Int64) (x8 : Int64) (x10 : Int32) (s : xS) : Option ((Int64 × Int32 × xS) ⊕ (xS × Int64)) := some (Sum.inl (x8, (x10 + (1 : Int32)), s))
set_option maxRecDepth 20000 in
theorem s211_77 {sc : Option (Nat × (Nat → Int32))} {x0 : Nat} {x1 : Int32} {x2 : Int64} {x4 : Int64} {x6 : Int64} {x8 : Int64} {x10 : Int32} {s : xS} {o : xH × Option Value} {r : ((Int64 × Int32 × xS) ⊕ (xS × Int64))} (k0 : oK x0 12 = true) (h : f211_77 x0 x1 x2 x4 x6 x8 x10 s = some r) (hr : dn211_6 sc x0 x1 x2 x4 x6 o r) : Ev sc 3 211 [] 77 [some (.ref x0), some (.int x1), some (.long x2), none, some (.long x4), none, some (.long x6), none, some (.long x8), none, some (.int x10)] [] (hk_of s) o := by
  unfold f211_77 at h
  refine E_blk rfl ?_
  refine E_ps 1 (pc' := 80) (l' := [some (.ref x0), some (.int x1), some (.long x2), none, some (.long x4), none, some (.long x6), none, some (.long x8), none, some (.int (x10 + (1 : Int32)))]) (st' := []) rfl ?_
  refine E_j rfl rfl ?_
  cases h
  exact E_wk (l' := [some (.ref x0), some (.int x1), some (.long x2), none, some (.long x4), none, some (.long x6), none, some (.long x8), none, some (.int (x10 + (1 : Int32)))]) ⟨rfl, rfl, rfl, rfl, rfl, rfl, rfl, trivial⟩ hr
noncomputable def f211_6 (x0 : Nat) (x1 : Int32) (x2 : Int64) (x4 : Int64) (x6 : Int64) (x8 : Int64) (x10 : Int32) (s : xS) : Option ((Int64 × Int32 × xS) ⊕ (xS × Int64)) := (f197 x0 s).bind fun z1 => if z1.2 ≤ x10 then (Option.map Sum.inr (some (z1.1, x8))) else ((hk_R x0 39).bind fun a4 => (aI z1.1 a4 x10).bind fun v6 => if v6 < 0 then (f211_77 x0 x1 x2 x4 x6 x8 x10 z1.1) else ((hk_R x0 40).bind fun a9 => (aI z1.1 a9 x1).bind fun v11 => (f196 x0 z1.1).bind fun z13 => ifg (¬ z13.2 = 0) <| (f196 x0 z13.1).bind fun z16 => ifg (¬ z16.2 = 0) <| (f196 x0 z16.1).bind fun z19 => ifg (¬ z19.2 = 0) <| (f196 x0 z19.1).bind fun z22 => ifg (¬ z22.2 = 0) <| f211_77 x0 x1 x2 x4 x6 (x8 + (((x6 * v11.toInt64) + (x2 * ((irm x10 z13.2) - (irm x1 z16.2)).toInt64)) + (x4 * ((x10 / z19.2) - (x1 / z22.2)).toInt64))) x10 z22.1))
set_option maxRecDepth 20000 in
theorem s211_6 {sc : Option (Nat × (Nat → Int32))} {x0 : Nat} {x1 : Int32} {x2 : Int64} {x4 : Int64} {x6 : Int64} {x8 : Int64} {x10 : Int32} {s : xS} {o : xH × Option Value} {r : ((Int64 × Int32 × xS) ⊕ (xS × Int64))} (k0 : oK x0 12 = true) (h : f211_6 x0 x1 x2 x4 x6 x8 x10 s = some r) (hr : dn211_6 sc x0 x1 x2 x4 x6 o r) : Ev sc 3 211 [] 6 [some (.ref x0), some (.int x1), some (.long x2), none, some (.long x4), none, some (.long x6), none, some (.long x8), none, some (.int x10)] [] (hk_of s) o := by
  unfold f211_6 at h
  refine E_blk rfl ?_
  refine E_ps 2 (pc' := 9) (l' := [some (.ref x0), some (.int x1), some (.long x2), none, some (.long x4), none, some (.long x6), none, some (.long x8), none, some (.int x10)]) (st' := [.ref x0, .int x10]) rfl ?_
  obtain ⟨z1, e2, h⟩ := Option.bind_eq_some_iff.mp h
  refine E_callI (vs := [.ref x0]) (rest := [.int x10]) rfl (by decide) rfl rfl (Nat.le_of_ble_eq_true rfl) (s197 e2) (by decide) ?_
  by_cases c3 : z1.2 ≤ x10
  · rw [if_pos c3] at h
    refine E_jt rfl rfl c3 ?_
    obtain ⟨r, h, hr⟩ := lf_some (Dn := dn211_6 sc x0 x1 x2 x4 x6 o) h hr
    refine E_blk rfl ?_
    refine E_ps 1 (pc' := 85) (l' := [some (.ref x0), some (.int x1), some (.long x2), none, some (.long x4), none, some (.long x6), none, some (.long x8), none, some (.int x10)]) (st' := [.long x8]) rfl ?_
    cases h
    exact E_ret rfl (pg_mt_md (by decide)) rfl hr
  · rw [if_neg c3] at h
    refine E_jf rfl rfl c3 ?_
    refine E_blk rfl ?_
    refine E_ps 1 (pc' := 16) (l' := [some (.ref x0), some (.int x1), some (.long x2), none, some (.long x4), none, some (.long x6), none, some (.long x8), none, some (.int x10)]) (st' := [.ref x0]) rfl ?_
    obtain ⟨a4, e5, h⟩ := Option.bind_eq_some_iff.mp h
    refine E_gr k0 (by decide) rfl e5 ?_
    refine E_ps 1 (pc' := 21) (l' := [some (.ref x0), some (.int x1), some (.long x2), none, some (.long x4), none, some (.long x6), none, some (.long x8), none, some (.int x10)]) (st' := [.int x10, .ref a4]) rfl ?_
    obtain ⟨v6, e7, h⟩ := Option.bind_eq_some_iff.mp h
    refine E_ai e7 ?_
    by_cases c8 : v6 < 0
    · rw [if_pos c8] at h
      refine E_jt rfl rfl c8 ?_
      exact E_wk (l' := [some (.ref x0), some (.int x1), some (.long x2), none, some (.long x4), none, some (.long x6), none, some (.long x8), none, some (.int x10)]) ⟨rfl, rfl, rfl, rfl, rfl, rfl, rfl, trivial⟩ (s211_77 k0 h hr)
    · rw [if_neg c8] at h
      refine E_jf rfl rfl c8 ?_
      refine E_blk rfl ?_
      refine E_ps 3 (pc' := 30) (l' := [some (.ref x0), some (.int x1), some (.long x2), none, some (.long x4), none, some (.long x6), none, some (.long x8), none, some (.int x10)]) (st' := [.ref x0, .long x6, .long x8]) rfl ?_
      obtain ⟨a9, e10, h⟩ := Option.bind_eq_some_iff.mp h
      refine E_gr k0 (by decide) rfl e10 ?_
      refine E_ps 1 (pc' := 34) (l' := [some (.ref x0), some (.int x1), some (.long x2), none, some (.long x4), none, some (.long x6), none, some (.long x8), none, some (.int x10)]) (st' := [.int x1, .ref a9, .long x6, .long x8]) rfl ?_
      obtain ⟨v11, e12, h⟩ := Option.bind_eq_some_iff.mp h
      refine E_ai e12 ?_
      refine E_ps 5 (pc' := 41) (l' := [some (.ref x0), some (.int x1), some (.long x2), none, some (.long x4), none, some (.long x6), none, some (.long x8), none, some (.int x10)]) (st' := [.ref x0, .int x10, .long x2, .long (x6 * v11.toInt64), .long x8]) rfl ?_
      obtain ⟨z13, e14, h⟩ := Option.bind_eq_some_iff.mp h
      refine E_callI (vs := [.ref x0]) (rest := [.int x10, .long x2, .long (x6 * v11.toInt64), .long x8]) rfl (by decide) rfl rfl (Nat.le_of_ble_eq_true rfl) (s196 e14) (by decide) ?_
      obtain ⟨g15, h⟩ := ifg_some h
      refine E_irem g15 ?_
      refine E_ps 2 (pc' := 47) (l' := [some (.ref x0), some (.int x1), some (.long x2), none, some (.long x4), none, some (.long x6), none, some (.long x8), none, some (.int x10)]) (st' := [.ref x0, .int x1, .int (irm x10 z13.2), .long x2, .long (x6 * v11.toInt64), .long x8]) rfl ?_
      obtain ⟨z16, e17, h⟩ := Option.bind_eq_some_iff.mp h
      refine E_callI (vs := [.ref x0]) (rest := [.int x1, .int (irm x10 z13.2), .long x2, .long (x6 * v11.toInt64), .long x8]) rfl (by decide) rfl rfl (Nat.le_of_ble_eq_true rfl) (s196 e17) (by decide) ?_
      obtain ⟨g18, h⟩ := ifg_some h
      refine E_irem g18 ?_
      refine E_ps 7 (pc' := 60) (l' := [some (.ref x0), some (.int x1), some (.long x2), none, some (.long x4), none, some (.long x6), none, some (.long x8), none, some (.int x10)]) (st' := [.ref x0, .int x10, .long x4, .long ((x6 * v11.toInt64) + (x2 * ((irm x10 z13.2) - (irm x1 z16.2)).toInt64)), .long x8]) rfl ?_
      obtain ⟨z19, e20, h⟩ := Option.bind_eq_some_iff.mp h
      refine E_callI (vs := [.ref x0]) (rest := [.int x10, .long x4, .long ((x6 * v11.toInt64) + (x2 * ((irm x10 z13.2) - (irm x1 z16.2)).toInt64)), .long x8]) rfl (by decide) rfl rfl (Nat.le_of_ble_eq_true rfl) (s196 e20) (by decide) ?_
      obtain ⟨g21, h⟩ := ifg_some h
      refine E_idiv g21 ?_
      refine E_ps 2 (pc' := 66) (l' := [some (.ref x0), some (.int x1), some (.long x2), none, some (.long x4), none, some (.long x6), none, some (.long x8), none, some (.int x10)]) (st' := [.ref x0, .int x1, .int (x10 / z19.2), .long x4, .long ((x6 * v11.toInt64) + (x2 * ((irm x10 z13.2) - (irm x1 z16.2)).toInt64)), .long x8]) rfl ?_
      obtain ⟨z22, e23, h⟩ := Option.bind_eq_some_iff.mp h
      refine E_callI (vs := [.ref x0]) (rest := [.int x1, .int (x10 / z19.2), .long x4, .long ((x6 * v11.toInt64) + (x2 * ((irm x10 z13.2) - (irm x1 z16.2)).toInt64)), .long x8]) rfl (by decide) rfl rfl (Nat.le_of_ble_eq_true rfl) (s196 e23) (by decide) ?_
      obtain ⟨g24, h⟩ := ifg_some h
      refine E_idiv g24 ?_
      refine E_ps 6 (pc' := 77) (l' := [some (.ref x0), some (.int x1), some (.long x2), none, some (.long x4), none, some (.long x6), none, some (.long (x8 + (((x6 * v11.toInt64) + (x2 * ((irm x10 z13.2) - (irm x1 z16.2)).toInt64)) + (x4 * ((x10 / z19.2) - (x1 / z22.2)).toInt64)))), none, some (.int x10)]) (st' := []) rfl ?_
      exact E_wk (l' := [some (.ref x0), some (.int x1), some (.long x2), none, some (.long x4), none, some (.long x6), none, some (.long (x8 + (((x6 * v11.toInt64) + (x2 * ((irm x10 z13.2) - (irm x1 z16.2)).toInt64)) + (x4 * ((x10 / z19.2) - (x1 / z22.2)).toInt64)))), none, some (.int x10)]) ⟨rfl, rfl, rfl, rfl, rfl, rfl, rfl, trivial⟩ (s211_77 k0 h hr)
theorem s211_6_w {sc : Option (Nat × (Nat → Int32))} {x0 : Nat} {x1 : Int32} {x2 : Int64} {x4 : Int64} {x6 : Int64} {x8 : Int64} {x10 : Int32} {s : xS} {o : xH × Option Value} {r : (xS × Int64)} (k0 : oK x0 12 = true) (h : whl (fun q : (Int64 × Int32 × xS) => f211_6 x0 x1 x2 x4 x6 q.1 q.2.1 q.2.2) (x8, x10, s) = some r) (hr : dn211 o r) : Ev sc 3 211 [] 6 [some (.ref x0), some (.int x1), some (.long x2), none, some (.long x4), none, some (.long x6), none, some (.long x8), none, some (.int x10)] [] (hk_of s) o := by
  refine whl_snd (E := fun q : (Int64 × Int32 × xS) => Ev sc 3 211 [] 6 [some (.ref x0), some (.int x1), some (.long x2), none, some (.long x4), none, some (.long x6), none, some (.long q.1), none, some (.int q.2.1)] [] (hk_of q.2.2) o) (P := fun r => dn211 o r) (fun q r h hr => ?_) h hr
  exact s211_6 k0 h (by cases r <;> exact hr)
noncomputable def f211 (x0 : Nat) (x1 : Int32) (x2 : Int64) (x4 : Int64) (x6 : Int64) (s : xS) : Option (xS × Int64) := ifg (oK x0 12 = true) <| whl (fun q : (Int64 × Int32 × xS) => f211_6 x0 x1 x2 x4 x6 q.1 q.2.1 q.2.2) ((0 : Int64), (0 : Int32), s)
set_option maxRecDepth 20000 in
theorem s211 {sc : Option (Nat × (Nat → Int32))} {x0 : Nat} {x1 : Int32} {x2 : Int64} {x4 : Int64} {x6 : Int64} {s : xS} {r : xS × Int64} (h : f211 x0 x1 x2 x4 x6 s = some r) : Cl sc 3 211 [.ref x0, .int x1, .long x2, .long x4, .long x6] (hk_of s) (hk_of r.1, some (.long r.2)) := by
  unfold f211 at h
  obtain ⟨k0, h⟩ := ifg_some h
  refine ⟨pg_md 211, [some (.ref x0), some (.int x1), some (.long x2), none, some (.long x4), none, some (.long x6), none, none, none, none], pg_mt_md (by decide), (hk_rcv k0), rfl, ?_⟩
  generalize ho : ((hk_of r.1, some (Value.long r.2)) : xH × Option Value) = o
  have hr : dn211 o r := ho.symm
  refine E_blk rfl ?_
  refine E_ps 4 (pc' := 6) (l' := [some (.ref x0), some (.int x1), some (.long x2), none, some (.long x4), none, some (.long x6), none, some (.long (0 : Int64)), none, some (.int (0 : Int32))]) (st' := []) rfl ?_
  exact E_wk (l' := [some (.ref x0), some (.int x1), some (.long x2), none, some (.long x4), none, some (.long x6), none, some (.long (0 : Int64)), none, some (.int (0 : Int32))]) ⟨rfl, rfl, rfl, rfl, rfl, rfl, rfl, trivial⟩ (s211_6_w k0 h hr)

-- 212: ThreePlatesModel.settle()V
def dn212 (o : xH × Option Value) (r : xS × Unit) : Prop := o = (hk_of r.1, none)
def dn212_4 (sc : Option (Nat × (Nat → Int32))) (x0 : Nat) (o : xH × Option Value) (r : ((Int32 × Int32 × xS) ⊕ (xS × Unit))) : Prop := match r with
  | .inl q => Ev sc 4 212 [] 4 [some (.ref x0), some (.int q.1), some (.int q.2.1), none, none] [] (hk_of q.2.2) o
  | .inr r => dn212 o r
def dn212_16 (sc : Option (Nat × (Nat → Int32))) (x0 : Nat) (x2 : Int32) (o : xH × Option Value) (r : ((Int32 × Int32 × xS) ⊕ ((Int32 × Int32 × xS) ⊕ (xS × Unit)))) : Prop := match r with
  | .inl q => Ev sc 4 212 [] 16 [some (.ref x0), some (.int q.1), some (.int x2), some (.int q.2.1), none] [] (hk_of q.2.2) o
  | .inr r => dn212_4 sc x0 o r
def dn212_29 (sc : Option (Nat × (Nat → Int32))) (x0 : Nat) (x2 : Int32) (x3 : Int32) (o : xH × Option Value) (r : ((Int32 × Int32 × xS) ⊕ ((Int32 × Int32 × xS) ⊕ ((Int32 × Int32 × xS) ⊕ (xS × Unit))))) : Prop := match r with
  | .inl q => Ev sc 4 212 [] 29 [some (.ref x0), some (.int q.1), some (.int x2), some (.int x3), some (.int q.2.1)] [] (hk_of q.2.2) o
  | .inr r => dn212_16 sc x0 x2 o r
noncomputable def f212_177 (x0 : Nat) (x1 : Int32) (x2 : Int32) (x3 : Int32) (x4 : Int32) (s : xS) : Option ((Int32 × Int32 × xS) ⊕ ((Int32 × Int32 × xS) ⊕ ((Int32 × Int32 × xS) ⊕ (xS × Unit)))) := some (Sum.inl (x1, (x4 + (1 : Int32)), s))
set_option maxRecDepth 20000 in
theorem s212_177 {sc : Option (Nat × (Nat → Int32))} {x0 : Nat} {x1 : Int32} {x2 : Int32} {x3 : Int32} {x4 : Int32} {s : xS} {o : xH × Option Value} {r : ((Int32 × Int32 × xS) ⊕ ((Int32 × Int32 × xS) ⊕ ((Int32 × Int32 × xS) ⊕ (xS × Unit))))} (k0 : oK x0 12 = true) (h : f212_177 x0 x1 x2 x3 x4 s = some r) (hr : dn212_29 sc x0 x2 x3 o r) : Ev sc 4 212 [] 177 [some (.ref x0), some (.int x1), some (.int x2), some (.int x3), some (.int x4)] [] (hk_of s) o := by
  unfold f212_177 at h
  refine E_blk rfl ?_
  refine E_ps 1 (pc' := 180) (l' := [some (.ref x0), some (.int x1), some (.int x2), some (.int x3), some (.int (x4 + (1 : Int32)))]) (st' := []) rfl ?_
  refine E_j rfl rfl ?_
  cases h
  exact E_wk (l' := [some (.ref x0), some (.int x1), some (.int x2), some (.int x3), some (.int (x4 + (1 : Int32)))]) ⟨rfl, rfl, rfl, rfl, rfl, trivial⟩ hr
noncomputable def f212_146 (x0 : Nat) (x2 : Int32) (x3 : Int32) (x4 : Int32) (s : xS) : Option ((Int32 × Int32 × xS) ⊕ ((Int32 × Int32 × xS) ⊕ ((Int32 × Int32 × xS) ⊕ (xS × Unit)))) := (pI s x0 42 x2).bind fun t1 => (pL t1 x0 43 (t1.2 x0 46)).bind fun t3 => (pL t3 x0 44 (t3.2 x0 47)).bind fun t5 => (pL t5 x0 45 (t5.2 x0 48)).bind fun t7 => f212_177 x0 (1 : Int32) x2 x3 x4 t7
set_option maxRecDepth 20000 in
theorem s212_146 {sc : Option (Nat × (Nat → Int32))} {x0 : Nat} {x2 : Int32} {x3 : Int32} {x4 : Int32} {s : xS} {o : xH × Option Value} {r : ((Int32 × Int32 × xS) ⊕ ((Int32 × Int32 × xS) ⊕ ((Int32 × Int32 × xS) ⊕ (xS × Unit))))} (k0 : oK x0 12 = true) (h : f212_146 x0 x2 x3 x4 s = some r) (hr : dn212_29 sc x0 x2 x3 o r) : Ev sc 4 212 [] 146 [some (.ref x0), none, some (.int x2), some (.int x3), some (.int x4)] [] (hk_of s) o := by
  unfold f212_146 at h
  refine E_blk rfl ?_
  refine E_ps 4 (pc' := 150) (l' := [some (.ref x0), some (.int (1 : Int32)), some (.int x2), some (.int x3), some (.int x4)]) (st' := [.int x2, .ref x0]) rfl ?_
  obtain ⟨t1, e2, h⟩ := Option.bind_eq_some_iff.mp h
  refine E_pi k0 (by decide) rfl e2 ?_
  refine E_ps 2 (pc' := 155) (l' := [some (.ref x0), some (.int (1 : Int32)), some (.int x2), some (.int x3), some (.int x4)]) (st' := [.ref x0, .ref x0]) rfl ?_
  refine E_gl k0 (by decide) rfl ?_
  obtain ⟨t3, e4, h⟩ := Option.bind_eq_some_iff.mp h
  refine E_pl k0 (by decide) rfl e4 ?_
  refine E_ps 2 (pc' := 163) (l' := [some (.ref x0), some (.int (1 : Int32)), some (.int x2), some (.int x3), some (.int x4)]) (st' := [.ref x0, .ref x0]) rfl ?_
  refine E_gl k0 (by decide) rfl ?_
  obtain ⟨t5, e6, h⟩ := Option.bind_eq_some_iff.mp h
  refine E_pl k0 (by decide) rfl e6 ?_
  refine E_ps 2 (pc' := 171) (l' := [some (.ref x0), some (.int (1 : Int32)), some (.int x2), some (.int x3), some (.int x4)]) (st' := [.ref x0, .ref x0]) rfl ?_
  refine E_gl k0 (by decide) rfl ?_
  obtain ⟨t7, e8, h⟩ := Option.bind_eq_some_iff.mp h
  refine E_pl k0 (by decide) rfl e8 ?_
  exact E_wk (l' := [some (.ref x0), some (.int (1 : Int32)), some (.int x2), some (.int x3), some (.int x4)]) ⟨rfl, rfl, rfl, rfl, rfl, trivial⟩ (s212_177 k0 h hr)
noncomputable def f212_29 (x0 : Nat) (x1 : Int32) (x2 : Int32) (x3 : Int32) (x4 : Int32) (s : xS) : Option ((Int32 × Int32 × xS) ⊕ ((Int32 × Int32 × xS) ⊕ ((Int32 × Int32 × xS) ⊕ (xS × Unit)))) := (f197 x0 s).bind fun z1 => if z1.2 ≤ x4 then (Option.map Sum.inr (some (Sum.inl (x1, (x3 + (1 : Int32)), z1.1)))) else ((hk_R x0 39).bind fun a4 => (aI z1.1 a4 x2).bind fun v6 => if v6 < 0 then (f212_177 x0 x1 x2 x3 x4 z1.1) else ((hk_R x0 39).bind fun a9 => (aI z1.1 a9 x3).bind fun v11 => if v11 < 0 then (f212_177 x0 x1 x2 x3 x4 z1.1) else ((hk_R x0 39).bind fun a14 => (aI z1.1 a14 x4).bind fun v16 => if v16 < 0 then (f212_177 x0 x1 x2 x3 x4 z1.1) else ((f208 x0 x2 x3 x4 z1.1).bind fun z19 => if z19.2 = 0 then (f212_177 x0 x1 x2 x3 x4 z19.1) else ((f210 x0 x2 z19.1).bind fun z22 => if z22.2 = 0 then (f212_177 x0 x1 x2 x3 x4 z22.1) else (if x1 = 0 then (f212_146 x0 x2 x3 x4 z22.1) else ((f211 x0 x2 (z22.1.2 x0 46) (z22.1.2 x0 47) (z22.1.2 x0 48) z22.1).bind fun z26 => (f211 x0 (z26.1.1 x0 42) (z26.1.2 x0 43) (z26.1.2 x0 44) (z26.1.2 x0 45) z26.1).bind fun z28 => if (lg_cmp (z26.2 * (z26.1.2 x0 45)) (z28.2 * (z28.1.2 x0 48))) < 0 then (f212_146 x0 x2 x3 x4 z28.1) else (f212_177 x0 x1 x2 x3 x4 z28.1))))))))
set_option maxRecDepth 20000 in
theorem s212_29 {sc : Option (Nat × (Nat → Int32))} {x0 : Nat} {x1 : Int32} {x2 : Int32} {x3 : Int32} {x4 : Int32} {s : xS} {o : xH × Option Value} {r : ((Int32 × Int32 × xS) ⊕ ((Int32 × Int32 × xS) ⊕ ((Int32 × Int32 × xS) ⊕ (xS × Unit))))} (k0 : oK x0 12 = true) (h : f212_29 x0 x1 x2 x3 x4 s = some r) (hr : dn212_29 sc x0 x2 x3 o r) : Ev sc 4 212 [] 29 [some (.ref x0), some (.int x1), some (.int x2), some (.int x3), some (.int x4)] [] (hk_of s) o := by
  unfold f212_29 at h
  refine E_blk rfl ?_
  refine E_ps 2 (pc' := 32) (l' := [some (.ref x0), some (.int x1), some (.int x2), some (.int x3), some (.int x4)]) (st' := [.ref x0, .int x4]) rfl ?_
  obtain ⟨z1, e2, h⟩ := Option.bind_eq_some_iff.mp h
  refine E_callI (vs := [.ref x0]) (rest := [.int x4]) rfl (by decide) rfl rfl (Nat.le_of_ble_eq_true rfl) (s197 e2) (by decide) ?_
  by_cases c3 : z1.2 ≤ x4
  · rw [if_pos c3] at h
    refine E_jt rfl rfl c3 ?_
    obtain ⟨r, h, hr⟩ := lf_some (Dn := dn212_29 sc x0 x2 x3 o) h hr
    refine E_blk rfl ?_
    refine E_ps 1 (pc' := 186) (l' := [some (.ref x0), some (.int x1), some (.int x2), some (.int (x3 + (1 : Int32))), some (.int x4)]) (st' := []) rfl ?_
    refine E_j rfl rfl ?_
    cases h
    exact E_wk (l' := [some (.ref x0), some (.int x1), some (.int x2), some (.int (x3 + (1 : Int32))), none]) ⟨rfl, rfl, rfl, rfl, trivial⟩ hr
  · rw [if_neg c3] at h
    refine E_jf rfl rfl c3 ?_
    refine E_blk rfl ?_
    refine E_ps 1 (pc' := 39) (l' := [some (.ref x0), some (.int x1), some (.int x2), some (.int x3), some (.int x4)]) (st' := [.ref x0]) rfl ?_
    obtain ⟨a4, e5, h⟩ := Option.bind_eq_some_iff.mp h
    refine E_gr k0 (by decide) rfl e5 ?_
    refine E_ps 1 (pc' := 43) (l' := [some (.ref x0), some (.int x1), some (.int x2), some (.int x3), some (.int x4)]) (st' := [.int x2, .ref a4]) rfl ?_
    obtain ⟨v6, e7, h⟩ := Option.bind_eq_some_iff.mp h
    refine E_ai e7 ?_
    by_cases c8 : v6 < 0
    · rw [if_pos c8] at h
      refine E_jt rfl rfl c8 ?_
      exact E_wk (l' := [some (.ref x0), some (.int x1), some (.int x2), some (.int x3), some (.int x4)]) ⟨rfl, rfl, rfl, rfl, rfl, trivial⟩ (s212_177 k0 h hr)
    · rw [if_neg c8] at h
      refine E_jf rfl rfl c8 ?_
      refine E_blk rfl ?_
      refine E_ps 1 (pc' := 48) (l' := [some (.ref x0), some (.int x1), some (.int x2), some (.int x3), some (.int x4)]) (st' := [.ref x0]) rfl ?_
      obtain ⟨a9, e10, h⟩ := Option.bind_eq_some_iff.mp h
      refine E_gr k0 (by decide) rfl e10 ?_
      refine E_ps 1 (pc' := 52) (l' := [some (.ref x0), some (.int x1), some (.int x2), some (.int x3), some (.int x4)]) (st' := [.int x3, .ref a9]) rfl ?_
      obtain ⟨v11, e12, h⟩ := Option.bind_eq_some_iff.mp h
      refine E_ai e12 ?_
      by_cases c13 : v11 < 0
      · rw [if_pos c13] at h
        refine E_jt rfl rfl c13 ?_
        exact E_wk (l' := [some (.ref x0), some (.int x1), some (.int x2), some (.int x3), some (.int x4)]) ⟨rfl, rfl, rfl, rfl, rfl, trivial⟩ (s212_177 k0 h hr)
      · rw [if_neg c13] at h
        refine E_jf rfl rfl c13 ?_
        refine E_blk rfl ?_
        refine E_ps 1 (pc' := 57) (l' := [some (.ref x0), some (.int x1), some (.int x2), some (.int x3), some (.int x4)]) (st' := [.ref x0]) rfl ?_
        obtain ⟨a14, e15, h⟩ := Option.bind_eq_some_iff.mp h
        refine E_gr k0 (by decide) rfl e15 ?_
        refine E_ps 1 (pc' := 62) (l' := [some (.ref x0), some (.int x1), some (.int x2), some (.int x3), some (.int x4)]) (st' := [.int x4, .ref a14]) rfl ?_
        obtain ⟨v16, e17, h⟩ := Option.bind_eq_some_iff.mp h
        refine E_ai e17 ?_
        by_cases c18 : v16 < 0
        · rw [if_pos c18] at h
          refine E_jt rfl rfl c18 ?_
          exact E_wk (l' := [some (.ref x0), some (.int x1), some (.int x2), some (.int x3), some (.int x4)]) ⟨rfl, rfl, rfl, rfl, rfl, trivial⟩ (s212_177 k0 h hr)
        · rw [if_neg c18] at h
          refine E_jf rfl rfl c18 ?_
          refine E_blk rfl ?_
          refine E_ps 4 (pc' := 71) (l' := [some (.ref x0), some (.int x1), some (.int x2), some (.int x3), some (.int x4)]) (st' := [.int x4, .int x3, .int x2, .ref x0]) rfl ?_
          obtain ⟨z19, e20, h⟩ := Option.bind_eq_some_iff.mp h
          refine E_callI (vs := [.ref x0, .int x2, .int x3, .int x4]) (rest := []) rfl (by decide) rfl rfl (Nat.le_of_ble_eq_true rfl) (s208 e20) (by decide) ?_
          by_cases c21 : z19.2 = 0
          · rw [if_pos c21] at h
            refine E_jt rfl rfl c21 ?_
            exact E_wk (l' := [some (.ref x0), some (.int x1), some (.int x2), some (.int x3), some (.int x4)]) ⟨rfl, rfl, rfl, rfl, rfl, trivial⟩ (s212_177 k0 h hr)
          · rw [if_neg c21] at h
            refine E_jf rfl rfl c21 ?_
            refine E_blk rfl ?_
            refine E_ps 2 (pc' := 79) (l' := [some (.ref x0), some (.int x1), some (.int x2), some (.int x3), some (.int x4)]) (st' := [.int x2, .ref x0]) rfl ?_
            obtain ⟨z22, e23, h⟩ := Option.bind_eq_some_iff.mp h
            refine E_callI (vs := [.ref x0, .int x2]) (rest := []) rfl (by decide) rfl rfl (Nat.le_of_ble_eq_true rfl) (s210 e23) (by decide) ?_
            by_cases c24 : z22.2 = 0
            · rw [if_pos c24] at h
              refine E_jt rfl rfl c24 ?_
              refine E_blk rfl ?_
              refine E_j rfl rfl ?_
              exact E_wk (l' := [some (.ref x0), some (.int x1), some (.int x2), some (.int x3), some (.int x4)]) ⟨rfl, rfl, rfl, rfl, rfl, trivial⟩ (s212_177 k0 h hr)
            · rw [if_neg c24] at h
              refine E_jf rfl rfl c24 ?_
              refine E_blk rfl ?_
              refine E_ps 1 (pc' := 89) (l' := [some (.ref x0), some (.int x1), some (.int x2), some (.int x3), some (.int x4)]) (st' := [.int x1]) rfl ?_
              by_cases c25 : x1 = 0
              · rw [if_pos c25] at h
                refine E_jt rfl rfl c25 ?_
                exact E_wk (l' := [some (.ref x0), none, some (.int x2), some (.int x3), some (.int x4)]) ⟨rfl, rfl, rfl, rfl, trivial⟩ (s212_146 k0 h hr)
              · rw [if_neg c25] at h
                refine E_jf rfl rfl c25 ?_
                refine E_blk rfl ?_
                refine E_ps 3 (pc' := 95) (l' := [some (.ref x0), some (.int x1), some (.int x2), some (.int x3), some (.int x4)]) (st' := [.ref x0, .int x2, .ref x0]) rfl ?_
                refine E_gl k0 (by decide) rfl ?_
                refine E_ps 1 (pc' := 99) (l' := [some (.ref x0), some (.int x1), some (.int x2), some (.int x3), some (.int x4)]) (st' := [.ref x0, .long (z22.1.2 x0 46), .int x2, .ref x0]) rfl ?_
                refine E_gl k0 (by decide) rfl ?_
                refine E_ps 1 (pc' := 103) (l' := [some (.ref x0), some (.int x1), some (.int x2), some (.int x3), some (.int x4)]) (st' := [.ref x0, .long (z22.1.2 x0 47), .long (z22.1.2 x0 46), .int x2, .ref x0]) rfl ?_
                refine E_gl k0 (by decide) rfl ?_
                obtain ⟨z26, e27, h⟩ := Option.bind_eq_some_iff.mp h
                refine E_callL (vs := [.ref x0, .int x2, .long (z22.1.2 x0 46), .long (z22.1.2 x0 47), .long (z22.1.2 x0 48)]) (rest := []) rfl (by decide) rfl rfl (Nat.le_of_ble_eq_true rfl) (s211 e27) (by decide) ?_
                refine E_ps 1 (pc' := 110) (l' := [some (.ref x0), some (.int x1), some (.int x2), some (.int x3), some (.int x4)]) (st' := [.ref x0, .long z26.2]) rfl ?_
                refine E_gl k0 (by decide) rfl ?_
                refine E_ps 3 (pc' := 116) (l' := [some (.ref x0), some (.int x1), some (.int x2), some (.int x3), some (.int x4)]) (st' := [.ref x0, .ref x0, .long (z26.2 * (z26.1.2 x0 45))]) rfl ?_
                refine E_gi k0 (by decide) rfl ?_
                refine E_ps 1 (pc' := 120) (l' := [some (.ref x0), some (.int x1), some (.int x2), some (.int x3), some (.int x4)]) (st' := [.ref x0, .int (z26.1.1 x0 42), .ref x0, .long (z26.2 * (z26.1.2 x0 45))]) rfl ?_
                refine E_gl k0 (by decide) rfl ?_
                refine E_ps 1 (pc' := 124) (l' := [some (.ref x0), some (.int x1), some (.int x2), some (.int x3), some (.int x4)]) (st' := [.ref x0, .long (z26.1.2 x0 43), .int (z26.1.1 x0 42), .ref x0, .long (z26.2 * (z26.1.2 x0 45))]) rfl ?_
                refine E_gl k0 (by decide) rfl ?_
                refine E_ps 1 (pc' := 128) (l' := [some (.ref x0), some (.int x1), some (.int x2), some (.int x3), some (.int x4)]) (st' := [.ref x0, .long (z26.1.2 x0 44), .long (z26.1.2 x0 43), .int (z26.1.1 x0 42), .ref x0, .long (z26.2 * (z26.1.2 x0 45))]) rfl ?_
                refine E_gl k0 (by decide) rfl ?_
                obtain ⟨z28, e29, h⟩ := Option.bind_eq_some_iff.mp h
                refine E_callL (vs := [.ref x0, .int (z26.1.1 x0 42), .long (z26.1.2 x0 43), .long (z26.1.2 x0 44), .long (z26.1.2 x0 45)]) (rest := [.long (z26.2 * (z26.1.2 x0 45))]) rfl (by decide) rfl rfl (Nat.le_of_ble_eq_true rfl) (s211 e29) (by decide) ?_
                refine E_ps 1 (pc' := 135) (l' := [some (.ref x0), some (.int x1), some (.int x2), some (.int x3), some (.int x4)]) (st' := [.ref x0, .long z28.2, .long (z26.2 * (z26.1.2 x0 45))]) rfl ?_
                refine E_gl k0 (by decide) rfl ?_
                refine E_ps 2 (pc' := 140) (l' := [some (.ref x0), some (.int x1), some (.int x2), some (.int x3), some (.int x4)]) (st' := [.int (lg_cmp (z26.2 * (z26.1.2 x0 45)) (z28.2 * (z28.1.2 x0 48)))]) rfl ?_
                by_cases c30 : (lg_cmp (z26.2 * (z26.1.2 x0 45)) (z28.2 * (z28.1.2 x0 48))) < 0
                · rw [if_pos c30] at h
                  refine E_jt rfl rfl c30 ?_
                  exact E_wk (l' := [some (.ref x0), none, some (.int x2), some (.int x3), some (.int x4)]) ⟨rfl, rfl, rfl, rfl, trivial⟩ (s212_146 k0 h hr)
                · rw [if_neg c30] at h
                  refine E_jf rfl rfl c30 ?_
                  refine E_blk rfl ?_
                  refine E_j rfl rfl ?_
                  exact E_wk (l' := [some (.ref x0), some (.int x1), some (.int x2), some (.int x3), some (.int x4)]) ⟨rfl, rfl, rfl, rfl, rfl, trivial⟩ (s212_177 k0 h hr)
theorem s212_29_w {sc : Option (Nat × (Nat → Int32))} {x0 : Nat} {x1 : Int32} {x2 : Int32} {x3 : Int32} {x4 : Int32} {s : xS} {o : xH × Option Value} {r : ((Int32 × Int32 × xS) ⊕ ((Int32 × Int32 × xS) ⊕ (xS × Unit)))} (k0 : oK x0 12 = true) (h : whl (fun q : (Int32 × Int32 × xS) => f212_29 x0 q.1 x2 x3 q.2.1 q.2.2) (x1, x4, s) = some r) (hr : dn212_16 sc x0 x2 o r) : Ev sc 4 212 [] 29 [some (.ref x0), some (.int x1), some (.int x2), some (.int x3), some (.int x4)] [] (hk_of s) o := by
  refine whl_snd (E := fun q : (Int32 × Int32 × xS) => Ev sc 4 212 [] 29 [some (.ref x0), some (.int q.1), some (.int x2), some (.int x3), some (.int q.2.1)] [] (hk_of q.2.2) o) (P := fun r => dn212_16 sc x0 x2 o r) (fun q r h hr => ?_) h hr
  exact s212_29 k0 h (by cases r <;> exact hr)
noncomputable def f212_16 (x0 : Nat) (x1 : Int32) (x2 : Int32) (x3 : Int32) (s : xS) : Option ((Int32 × Int32 × xS) ⊕ ((Int32 × Int32 × xS) ⊕ (xS × Unit))) := (f197 x0 s).bind fun z1 => if z1.2 ≤ x3 then (Option.map Sum.inr (some (Sum.inl (x1, (x2 + (1 : Int32)), z1.1)))) else (whl (fun q : (Int32 × Int32 × xS) => f212_29 x0 q.1 x2 x3 q.2.1 q.2.2) (x1, (x3 + (1 : Int32)), z1.1))
set_option maxRecDepth 20000 in
theorem s212_16 {sc : Option (Nat × (Nat → Int32))} {x0 : Nat} {x1 : Int32} {x2 : Int32} {x3 : Int32} {s : xS} {o : xH × Option Value} {r : ((Int32 × Int32 × xS) ⊕ ((Int32 × Int32 × xS) ⊕ (xS × Unit)))} (k0 : oK x0 12 = true) (h : f212_16 x0 x1 x2 x3 s = some r) (hr : dn212_16 sc x0 x2 o r) : Ev sc 4 212 [] 16 [some (.ref x0), some (.int x1), some (.int x2), some (.int x3), none] [] (hk_of s) o := by
  unfold f212_16 at h
  refine E_blk rfl ?_
  refine E_ps 2 (pc' := 18) (l' := [some (.ref x0), some (.int x1), some (.int x2), some (.int x3), none]) (st' := [.ref x0, .int x3]) rfl ?_
  obtain ⟨z1, e2, h⟩ := Option.bind_eq_some_iff.mp h
  refine E_callI (vs := [.ref x0]) (rest := [.int x3]) rfl (by decide) rfl rfl (Nat.le_of_ble_eq_true rfl) (s197 e2) (by decide) ?_
  by_cases c3 : z1.2 ≤ x3
  · rw [if_pos c3] at h
    refine E_jt rfl rfl c3 ?_
    obtain ⟨r, h, hr⟩ := lf_some (Dn := dn212_16 sc x0 x2 o) h hr
    refine E_blk rfl ?_
    refine E_ps 1 (pc' := 192) (l' := [some (.ref x0), some (.int x1), some (.int (x2 + (1 : Int32))), some (.int x3), none]) (st' := []) rfl ?_
    refine E_j rfl rfl ?_
    cases h
    exact E_wk (l' := [some (.ref x0), some (.int x1), some (.int (x2 + (1 : Int32))), none, none]) ⟨rfl, rfl, rfl, trivial⟩ hr
  · rw [if_neg c3] at h
    refine E_jf rfl rfl c3 ?_
    refine E_blk rfl ?_
    refine E_ps 4 (pc' := 29) (l' := [some (.ref x0), some (.int x1), some (.int x2), some (.int x3), some (.int (x3 + (1 : Int32)))]) (st' := []) rfl ?_
    exact E_wk (l' := [some (.ref x0), some (.int x1), some (.int x2), some (.int x3), some (.int (x3 + (1 : Int32)))]) ⟨rfl, rfl, rfl, rfl, rfl, trivial⟩ (s212_29_w k0 h hr)
theorem s212_16_w {sc : Option (Nat × (Nat → Int32))} {x0 : Nat} {x1 : Int32} {x2 : Int32} {x3 : Int32} {s : xS} {o : xH × Option Value} {r : ((Int32 × Int32 × xS) ⊕ (xS × Unit))} (k0 : oK x0 12 = true) (h : whl (fun q : (Int32 × Int32 × xS) => f212_16 x0 q.1 x2 q.2.1 q.2.2) (x1, x3, s) = some r) (hr : dn212_4 sc x0 o r) : Ev sc 4 212 [] 16 [some (.ref x0), some (.int x1), some (.int x2), some (.int x3), none] [] (hk_of s) o := by
  refine whl_snd (E := fun q : (Int32 × Int32 × xS) => Ev sc 4 212 [] 16 [some (.ref x0), some (.int q.1), some (.int x2), some (.int q.2.1), none] [] (hk_of q.2.2) o) (P := fun r => dn212_4 sc x0 o r) (fun q r h hr => ?_) h hr
  exact s212_16 k0 h (by cases r <;> exact hr)
noncomputable def f212_4 (x0 : Nat) (x1 : Int32) (x2 : Int32) (s : xS) : Option ((Int32 × Int32 × xS) ⊕ (xS × Unit)) := (f197 x0 s).bind fun z1 => if z1.2 ≤ x2 then (Option.map Sum.inr (some (z1.1, ()))) else (whl (fun q : (Int32 × Int32 × xS) => f212_16 x0 q.1 x2 q.2.1 q.2.2) (x1, (x2 + (1 : Int32)), z1.1))
set_option maxRecDepth 20000 in
theorem s212_4 {sc : Option (Nat × (Nat → Int32))} {x0 : Nat} {x1 : Int32} {x2 : Int32} {s : xS} {o : xH × Option Value} {r : ((Int32 × Int32 × xS) ⊕ (xS × Unit))} (k0 : oK x0 12 = true) (h : f212_4 x0 x1 x2 s = some r) (hr : dn212_4 sc x0 o r) : Ev sc 4 212 [] 4 [some (.ref x0), some (.int x1), some (.int x2), none, none] [] (hk_of s) o := by
  unfold f212_4 at h
  refine E_blk rfl ?_
  refine E_ps 2 (pc' := 6) (l' := [some (.ref x0), some (.int x1), some (.int x2), none, none]) (st' := [.ref x0, .int x2]) rfl ?_
  obtain ⟨z1, e2, h⟩ := Option.bind_eq_some_iff.mp h
  refine E_callI (vs := [.ref x0]) (rest := [.int x2]) rfl (by decide) rfl rfl (Nat.le_of_ble_eq_true rfl) (s197 e2) (by decide) ?_
  by_cases c3 : z1.2 ≤ x2
  · rw [if_pos c3] at h
    refine E_jt rfl rfl c3 ?_
    obtain ⟨r, h, hr⟩ := lf_some (Dn := dn212_4 sc x0 o) h hr
    refine E_blk rfl ?_
    cases h
    exact E_ret rfl (pg_mt_md (by decide)) rfl hr
  · rw [if_neg c3] at h
    refine E_jf rfl rfl c3 ?_
    refine E_blk rfl ?_
    refine E_ps 4 (pc' := 16) (l' := [some (.ref x0), some (.int x1), some (.int x2), some (.int (x2 + (1 : Int32))), none]) (st' := []) rfl ?_
    exact E_wk (l' := [some (.ref x0), some (.int x1), some (.int x2), some (.int (x2 + (1 : Int32))), none]) ⟨rfl, rfl, rfl, rfl, trivial⟩ (s212_16_w k0 h hr)
theorem s212_4_w {sc : Option (Nat × (Nat → Int32))} {x0 : Nat} {x1 : Int32} {x2 : Int32} {s : xS} {o : xH × Option Value} {r : (xS × Unit)} (k0 : oK x0 12 = true) (h : whl (fun q : (Int32 × Int32 × xS) => f212_4 x0 q.1 q.2.1 q.2.2) (x1, x2, s) = some r) (hr : dn212 o r) : Ev sc 4 212 [] 4 [some (.ref x0), some (.int x1), some (.int x2), none, none] [] (hk_of s) o := by
  refine whl_snd (E := fun q : (Int32 × Int32 × xS) => Ev sc 4 212 [] 4 [some (.ref x0), some (.int q.1), some (.int q.2.1), none, none] [] (hk_of q.2.2) o) (P := fun r => dn212 o r) (fun q r h hr => ?_) h hr
  exact s212_4 k0 h (by cases r <;> exact hr)
noncomputable def f212 (x0 : Nat) (s : xS) : Option (xS × Unit) := ifg (oK x0 12 = true) <| whl (fun q : (Int32 × Int32 × xS) => f212_4 x0 q.1 q.2.1 q.2.2) ((0 : Int32), (0 : Int32), s)
set_option maxRecDepth 20000 in
theorem s212 {sc : Option (Nat × (Nat → Int32))} {x0 : Nat} {s : xS} {r : xS × Unit} (h : f212 x0 s = some r) : Cl sc 4 212 [.ref x0] (hk_of s) (hk_of r.1, none) := by
  unfold f212 at h
  obtain ⟨k0, h⟩ := ifg_some h
  refine ⟨pg_md 212, [some (.ref x0), none, none, none, none], pg_mt_md (by decide), (hk_rcv k0), rfl, ?_⟩
  generalize ho : ((hk_of r.1, none) : xH × Option Value) = o
  have hr : dn212 o r := ho.symm
  refine E_blk rfl ?_
  refine E_ps 4 (pc' := 4) (l' := [some (.ref x0), some (.int (0 : Int32)), some (.int (0 : Int32)), none, none]) (st' := []) rfl ?_
  exact E_wk (l' := [some (.ref x0), some (.int (0 : Int32)), some (.int (0 : Int32)), none, none]) ⟨rfl, rfl, rfl, trivial⟩ (s212_4_w k0 h hr)

-- 213: ThreePlatesModel.gapOf(I)J
def dn213 (o : xH × Option Value) (r : xS × Int64) : Prop := o = (hk_of r.1, some (.long r.2))
noncomputable def f213 (x0 : Nat) (x1 : Int32) (s : xS) : Option (xS × Int64) := ifg (oK x0 12 = true) <| (f209 x0 x1 (s.1 x0 42) (s.2 x0 43) (s.2 x0 44) (s.2 x0 45) s).bind fun z1 => some (z1.1, z1.2)
set_option maxRecDepth 20000 in
theorem s213 {sc : Option (Nat × (Nat → Int32))} {x0 : Nat} {x1 : Int32} {s : xS} {r : xS × Int64} (h : f213 x0 x1 s = some r) : Cl sc 3 213 [.ref x0, .int x1] (hk_of s) (hk_of r.1, some (.long r.2)) := by
  unfold f213 at h
  obtain ⟨k0, h⟩ := ifg_some h
  refine ⟨pg_md 213, [some (.ref x0), some (.int x1)], pg_mt_md (by decide), (hk_rcv k0), rfl, ?_⟩
  generalize ho : ((hk_of r.1, some (Value.long r.2)) : xH × Option Value) = o
  have hr : dn213 o r := ho.symm
  refine E_blk rfl ?_
  refine E_ps 3 (pc' := 3) (l' := [some (.ref x0), some (.int x1)]) (st' := [.ref x0, .int x1, .ref x0]) rfl ?_
  refine E_gi k0 (by decide) rfl ?_
  refine E_ps 1 (pc' := 7) (l' := [some (.ref x0), some (.int x1)]) (st' := [.ref x0, .int (s.1 x0 42), .int x1, .ref x0]) rfl ?_
  refine E_gl k0 (by decide) rfl ?_
  refine E_ps 1 (pc' := 11) (l' := [some (.ref x0), some (.int x1)]) (st' := [.ref x0, .long (s.2 x0 43), .int (s.1 x0 42), .int x1, .ref x0]) rfl ?_
  refine E_gl k0 (by decide) rfl ?_
  refine E_ps 1 (pc' := 15) (l' := [some (.ref x0), some (.int x1)]) (st' := [.ref x0, .long (s.2 x0 44), .long (s.2 x0 43), .int (s.1 x0 42), .int x1, .ref x0]) rfl ?_
  refine E_gl k0 (by decide) rfl ?_
  obtain ⟨z1, e2, h⟩ := Option.bind_eq_some_iff.mp h
  refine E_callL (vs := [.ref x0, .int x1, .int (s.1 x0 42), .long (s.2 x0 43), .long (s.2 x0 44), .long (s.2 x0 45)]) (rest := []) rfl (by decide) rfl rfl (Nat.le_of_ble_eq_true rfl) (s209 e2) (by decide) ?_
  cases h
  exact E_ret rfl (pg_mt_md (by decide)) rfl hr

-- 214: ThreePlatesModel.isRedCell(I)Z
def dn214 (o : xH × Option Value) (r : xS × Int32) : Prop := o = (hk_of r.1, some (.int r.2))
noncomputable def f214_38 (y0 : Int32) (s : xS) : Option (xS × Int32) := ifg (y0 = 0 ∨ y0 = 1) <| some (s, y0)
set_option maxRecDepth 20000 in
theorem s214_38 {sc : Option (Nat × (Nat → Int32))} {y0 : Int32} {s : xS} {o : xH × Option Value} {r : (xS × Int32)}  (h : f214_38 y0 s = some r) (hr : dn214 o r) : Ev sc 4 214 [] 38 [none, none] [.int y0] (hk_of s) o := by
  unfold f214_38 at h
  refine E_blk rfl ?_
  obtain ⟨g1, h⟩ := ifg_some h
  cases h
  exact E_ret rfl (pg_mt_md (by decide)) (hk_retz g1 rfl) hr
noncomputable def f214_37  (s : xS) : Option (xS × Int32) := f214_38 (0 : Int32) s
set_option maxRecDepth 20000 in
theorem s214_37 {sc : Option (Nat × (Nat → Int32))}  {s : xS} {o : xH × Option Value} {r : (xS × Int32)}  (h : f214_37  s = some r) (hr : dn214 o r) : Ev sc 4 214 [] 37 [none, none] [] (hk_of s) o := by
  unfold f214_37 at h
  refine E_blk rfl ?_
  refine E_ps 1 (pc' := 38) (l' := [none, none]) (st' := [.int (0 : Int32)]) rfl ?_
  exact E_wk (l' := [none, none]) trivial (s214_38  h hr)
noncomputable def f214 (x0 : Nat) (x1 : Int32) (s : xS) : Option (xS × Int32) := ifg (oK x0 12 = true) <| (hk_R x0 39).bind fun a1 => (aI s a1 x1).bind fun v3 => if v3 < 0 then (f214_37  s) else ((f213 x0 x1 s).bind fun z6 => (hk_R x0 13).bind fun a8 => (aI z6.1 a8 (z6.1.1 x0 25)).bind fun v10 => if 0 < (lg_cmp z6.2 ((z6.1.2 x0 45) * v10.toInt64)) then (f214_37  z6.1) else (f214_38 (1 : Int32) z6.1))
set_option maxRecDepth 20000 in
theorem s214 {sc : Option (Nat × (Nat → Int32))} {x0 : Nat} {x1 : Int32} {s : xS} {r : xS × Int32} (h : f214 x0 x1 s = some r) : Cl sc 4 214 [.ref x0, .int x1] (hk_of s) (hk_of r.1, some (.int r.2)) := by
  unfold f214 at h
  obtain ⟨k0, h⟩ := ifg_some h
  refine ⟨pg_md 214, [some (.ref x0), some (.int x1)], pg_mt_md (by decide), (hk_rcv k0), rfl, ?_⟩
  generalize ho : ((hk_of r.1, some (Value.int r.2)) : xH × Option Value) = o
  have hr : dn214 o r := ho.symm
  refine E_blk rfl ?_
  refine E_ps 1 (pc' := 1) (l' := [some (.ref x0), some (.int x1)]) (st' := [.ref x0]) rfl ?_
  obtain ⟨a1, e2, h⟩ := Option.bind_eq_some_iff.mp h
  refine E_gr k0 (by decide) rfl e2 ?_
  refine E_ps 1 (pc' := 5) (l' := [some (.ref x0), some (.int x1)]) (st' := [.int x1, .ref a1]) rfl ?_
  obtain ⟨v3, e4, h⟩ := Option.bind_eq_some_iff.mp h
  refine E_ai e4 ?_
  by_cases c5 : v3 < 0
  · rw [if_pos c5] at h
    refine E_jt rfl rfl c5 ?_
    exact E_wk (l' := [none, none]) trivial (s214_37  h hr)
  · rw [if_neg c5] at h
    refine E_jf rfl rfl c5 ?_
    refine E_blk rfl ?_
    refine E_ps 2 (pc' := 11) (l' := [some (.ref x0), some (.int x1)]) (st' := [.int x1, .ref x0]) rfl ?_
    obtain ⟨z6, e7, h⟩ := Option.bind_eq_some_iff.mp h
    refine E_callL (vs := [.ref x0, .int x1]) (rest := []) rfl (by decide) rfl rfl (Nat.le_of_ble_eq_true rfl) (s213 e7) (by decide) ?_
    refine E_ps 1 (pc' := 15) (l' := [some (.ref x0), some (.int x1)]) (st' := [.ref x0, .long z6.2]) rfl ?_
    refine E_gl k0 (by decide) rfl ?_
    refine E_ps 1 (pc' := 19) (l' := [some (.ref x0), some (.int x1)]) (st' := [.ref x0, .long (z6.1.2 x0 45), .long z6.2]) rfl ?_
    obtain ⟨a8, e9, h⟩ := Option.bind_eq_some_iff.mp h
    refine E_gr k0 (by decide) rfl e9 ?_
    refine E_ps 1 (pc' := 23) (l' := [some (.ref x0), some (.int x1)]) (st' := [.ref x0, .ref a8, .long (z6.1.2 x0 45), .long z6.2]) rfl ?_
    refine E_gi k0 (by decide) rfl ?_
    obtain ⟨v10, e11, h⟩ := Option.bind_eq_some_iff.mp h
    refine E_ai e11 ?_
    refine E_ps 3 (pc' := 30) (l' := [some (.ref x0), some (.int x1)]) (st' := [.int (lg_cmp z6.2 ((z6.1.2 x0 45) * v10.toInt64))]) rfl ?_
    by_cases c12 : 0 < (lg_cmp z6.2 ((z6.1.2 x0 45) * v10.toInt64))
    · rw [if_pos c12] at h
      refine E_jt rfl rfl c12 ?_
      exact E_wk (l' := [none, none]) trivial (s214_37  h hr)
    · rw [if_neg c12] at h
      refine E_jf rfl rfl c12 ?_
      refine E_blk rfl ?_
      refine E_ps 1 (pc' := 34) (l' := [some (.ref x0), some (.int x1)]) (st' := [.int (1 : Int32)]) rfl ?_
      refine E_j rfl rfl ?_
      exact E_wk (l' := [none, none]) trivial (s214_38  h hr)

-- 215: ThreePlatesModel.common(JJ)J
def dn215 (o : xH × Option Value) (r : xS × Int64) : Prop := o = (hk_of r.1, some (.long r.2))
def dn215_17 (sc : Option (Nat × (Nat → Int32)))  (o : xH × Option Value) (r : ((Int64 × Int64 × xS) ⊕ (xS × Int64))) : Prop := match r with
  | .inl q => Ev sc 1 215 [] 17 [none, none, none, none, some (.long q.1), none, some (.long q.2.1), none, none, none] [] (hk_of q.2.2) o
  | .inr r => dn215 o r
noncomputable def f215_17 (x4 : Int64) (x6 : Int64) (s : xS) : Option ((Int64 × Int64 × xS) ⊕ (xS × Int64)) := if (lg_cmp x6 (0 : Int64)) = 0 then (Option.map Sum.inr (some (s, x4))) else (ifg (¬ x6 = 0) <| some (Sum.inl (x6, (lrm x4 x6), s)))
set_option maxRecDepth 20000 in
theorem s215_17 {sc : Option (Nat × (Nat → Int32))} {x4 : Int64} {x6 : Int64} {s : xS} {o : xH × Option Value} {r : ((Int64 × Int64 × xS) ⊕ (xS × Int64))}  (h : f215_17 x4 x6 s = some r) (hr : dn215_17 sc  o r) : Ev sc 1 215 [] 17 [none, none, none, none, some (.long x4), none, some (.long x6), none, none, none] [] (hk_of s) o := by
  unfold f215_17 at h
  refine E_blk rfl ?_
  refine E_ps 3 (pc' := 21) (l' := [none, none, none, none, some (.long x4), none, some (.long x6), none, none, none]) (st' := [.int (lg_cmp x6 (0 : Int64))]) rfl ?_
  by_cases c1 : (lg_cmp x6 (0 : Int64)) = 0
  · rw [if_pos c1] at h
    refine E_jt rfl rfl c1 ?_
    obtain ⟨r, h, hr⟩ := lf_some (Dn := dn215_17 sc  o) h hr
    refine E_blk rfl ?_
    refine E_ps 1 (pc' := 44) (l' := [none, none, none, none, some (.long x4), none, some (.long x6), none, none, none]) (st' := [.long x4]) rfl ?_
    cases h
    exact E_ret rfl (pg_mt_md (by decide)) rfl hr
  · rw [if_neg c1] at h
    refine E_jf rfl rfl c1 ?_
    refine E_blk rfl ?_
    refine E_ps 2 (pc' := 28) (l' := [none, none, none, none, some (.long x4), none, some (.long x6), none, none, none]) (st' := [.long x6, .long x4]) rfl ?_
    obtain ⟨g2, h⟩ := ifg_some h
    refine E_lrem g2 ?_
    refine E_ps 5 (pc' := 39) (l' := [none, none, none, none, some (.long x6), none, some (.long (lrm x4 x6)), none, some (.long (lrm x4 x6)), none]) (st' := []) rfl ?_
    refine E_j rfl rfl ?_
    cases h
    exact E_wk (l' := [none, none, none, none, some (.long x6), none, some (.long (lrm x4 x6)), none, none, none]) ⟨rfl, rfl, trivial⟩ hr
theorem s215_17_w {sc : Option (Nat × (Nat → Int32))} {x4 : Int64} {x6 : Int64} {s : xS} {o : xH × Option Value} {r : (xS × Int64)}  (h : whl (fun q : (Int64 × Int64 × xS) => f215_17 q.1 q.2.1 q.2.2) (x4, x6, s) = some r) (hr : dn215 o r) : Ev sc 1 215 [] 17 [none, none, none, none, some (.long x4), none, some (.long x6), none, none, none] [] (hk_of s) o := by
  refine whl_snd (E := fun q : (Int64 × Int64 × xS) => Ev sc 1 215 [] 17 [none, none, none, none, some (.long q.1), none, some (.long q.2.1), none, none, none] [] (hk_of q.2.2) o) (P := fun r => dn215 o r) (fun q r h hr => ?_) h hr
  exact s215_17  h (by cases r <;> exact hr)
noncomputable def f215_12 (x2 : Int64) (y0 : Int64) (s : xS) : Option (xS × Int64) := whl (fun q : (Int64 × Int64 × xS) => f215_17 q.1 q.2.1 q.2.2) (y0, x2, s)
set_option maxRecDepth 20000 in
theorem s215_12 {sc : Option (Nat × (Nat → Int32))} {x2 : Int64} {y0 : Int64} {s : xS} {o : xH × Option Value} {r : (xS × Int64)}  (h : f215_12 x2 y0 s = some r) (hr : dn215 o r) : Ev sc 1 215 [] 12 [none, none, some (.long x2), none, none, none, none, none, none, none] [.long y0] (hk_of s) o := by
  unfold f215_12 at h
  refine E_blk rfl ?_
  refine E_ps 3 (pc' := 17) (l' := [none, none, some (.long x2), none, some (.long y0), none, some (.long x2), none, none, none]) (st' := []) rfl ?_
  exact E_wk (l' := [none, none, none, none, some (.long y0), none, some (.long x2), none, none, none]) ⟨rfl, rfl, trivial⟩ (s215_17_w  h hr)
noncomputable def f215 (x0 : Int64) (x2 : Int64) (s : xS) : Option (xS × Int64) :=  if 0 ≤ (lg_cmp x0 (0 : Int64)) then (f215_12 x2 x0 s) else (f215_12 x2 (-x0) s)
set_option maxRecDepth 20000 in
theorem s215 {sc : Option (Nat × (Nat → Int32))} {x0 : Int64} {x2 : Int64} {s : xS} {r : xS × Int64} (h : f215 x0 x2 s = some r) : Cl sc 1 215 [.long x0, .long x2] (hk_of s) (hk_of r.1, some (.long r.2)) := by
  unfold f215 at h
  refine ⟨pg_md 215, [some (.long x0), none, some (.long x2), none, none, none, none, none, none, none], pg_mt_md (by decide), rfl, rfl, ?_⟩
  generalize ho : ((hk_of r.1, some (Value.long r.2)) : xH × Option Value) = o
  have hr : dn215 o r := ho.symm
  refine E_blk rfl ?_
  refine E_ps 3 (pc' := 3) (l' := [some (.long x0), none, some (.long x2), none, none, none, none, none, none, none]) (st' := [.int (lg_cmp x0 (0 : Int64))]) rfl ?_
  by_cases c1 : 0 ≤ (lg_cmp x0 (0 : Int64))
  · rw [if_pos c1] at h
    refine E_jt rfl rfl c1 ?_
    refine E_blk rfl ?_
    refine E_ps 1 (pc' := 12) (l' := [some (.long x0), none, some (.long x2), none, none, none, none, none, none, none]) (st' := [.long x0]) rfl ?_
    exact E_wk (l' := [none, none, some (.long x2), none, none, none, none, none, none, none]) ⟨rfl, trivial⟩ (s215_12  h hr)
  · rw [if_neg c1] at h
    refine E_jf rfl rfl c1 ?_
    refine E_blk rfl ?_
    refine E_ps 2 (pc' := 8) (l' := [some (.long x0), none, some (.long x2), none, none, none, none, none, none, none]) (st' := [.long (-x0)]) rfl ?_
    refine E_j rfl rfl ?_
    exact E_wk (l' := [none, none, some (.long x2), none, none, none, none, none, none, none]) ⟨rfl, trivial⟩ (s215_12  h hr)

-- 216: ThreePlatesModel.part(JJI)J
def dn216 (o : xH × Option Value) (r : xS × Int64) : Prop := o = (hk_of r.1, some (.long r.2))
noncomputable def f216_23 (y0 : Int64) (s : xS) : Option (xS × Int64) := some (s, y0)
set_option maxRecDepth 20000 in
theorem s216_23 {sc : Option (Nat × (Nat → Int32))} {y0 : Int64} {s : xS} {o : xH × Option Value} {r : (xS × Int64)}  (h : f216_23 y0 s = some r) (hr : dn216 o r) : Ev sc 2 216 [] 23 [none, none, none, none, none, none, none] [.long y0] (hk_of s) o := by
  unfold f216_23 at h
  refine E_blk rfl ?_
  cases h
  exact E_ret rfl (pg_mt_md (by decide)) rfl hr
noncomputable def f216 (x0 : Int64) (x2 : Int64) (x4 : Int32) (s : xS) : Option (xS × Int64) :=  (f215 x0 x2 s).bind fun z1 => if x4 = 0 then (ifg (¬ z1.2 = 0) <| f216_23 (x0 / z1.2) z1.1) else (ifg (¬ z1.2 = 0) <| f216_23 (x2 / z1.2) z1.1)
set_option maxRecDepth 20000 in
theorem s216 {sc : Option (Nat × (Nat → Int32))} {x0 : Int64} {x2 : Int64} {x4 : Int32} {s : xS} {r : xS × Int64} (h : f216 x0 x2 x4 s = some r) : Cl sc 2 216 [.long x0, .long x2, .int x4] (hk_of s) (hk_of r.1, some (.long r.2)) := by
  unfold f216 at h
  refine ⟨pg_md 216, [some (.long x0), none, some (.long x2), none, some (.int x4), none, none], pg_mt_md (by decide), rfl, rfl, ?_⟩
  generalize ho : ((hk_of r.1, some (Value.long r.2)) : xH × Option Value) = o
  have hr : dn216 o r := ho.symm
  refine E_blk rfl ?_
  refine E_ps 2 (pc' := 2) (l' := [some (.long x0), none, some (.long x2), none, some (.int x4), none, none]) (st' := [.long x2, .long x0]) rfl ?_
  obtain ⟨z1, e2, h⟩ := Option.bind_eq_some_iff.mp h
  refine E_callL (vs := [.long x0, .long x2]) (rest := []) rfl (by decide) rfl rfl (Nat.le_of_ble_eq_true rfl) (s215 e2) (by decide) ?_
  refine E_ps 2 (pc' := 9) (l' := [some (.long x0), none, some (.long x2), none, some (.int x4), some (.long z1.2), none]) (st' := [.int x4]) rfl ?_
  by_cases c3 : x4 = 0
  · rw [if_pos c3] at h
    refine E_jt rfl rfl c3 ?_
    refine E_blk rfl ?_
    refine E_ps 2 (pc' := 15) (l' := [some (.long x0), none, some (.long x2), none, some (.int x4), some (.long z1.2), none]) (st' := [.long z1.2, .long x0]) rfl ?_
    obtain ⟨g4, h⟩ := ifg_some h
    refine E_ldiv g4 ?_
    refine E_j rfl rfl ?_
    exact E_wk (l' := [none, none, none, none, none, none, none]) trivial (s216_23  h hr)
  · rw [if_neg c3] at h
    refine E_jf rfl rfl c3 ?_
    refine E_blk rfl ?_
    refine E_ps 2 (pc' := 22) (l' := [some (.long x0), none, some (.long x2), none, some (.int x4), some (.long z1.2), none]) (st' := [.long z1.2, .long x2]) rfl ?_
    obtain ⟨g5, h⟩ := ifg_some h
    refine E_ldiv g5 ?_
    exact E_wk (l' := [none, none, none, none, none, none, none]) trivial (s216_23  h hr)

-- 217: ThreePlatesModel.isPart(I)Z
def dn217 (o : xH × Option Value) (r : xS × Int32) : Prop := o = (hk_of r.1, some (.int r.2))
noncomputable def f217 (x0 : Int32) (s : xS) : Option (xS × Int32) :=  (f195 x0 (0 : Int32) (1 : Int32) s).bind fun z1 => ifg (z1.2 = 0 ∨ z1.2 = 1) <| some (z1.1, z1.2)
set_option maxRecDepth 20000 in
theorem s217 {sc : Option (Nat × (Nat → Int32))} {x0 : Int32} {s : xS} {r : xS × Int32} (h : f217 x0 s = some r) : Cl sc 2 217 [.int x0] (hk_of s) (hk_of r.1, some (.int r.2)) := by
  unfold f217 at h
  refine ⟨pg_md 217, [some (.int x0)], pg_mt_md (by decide), rfl, rfl, ?_⟩
  generalize ho : ((hk_of r.1, some (Value.int r.2)) : xH × Option Value) = o
  have hr : dn217 o r := ho.symm
  refine E_blk rfl ?_
  refine E_ps 3 (pc' := 3) (l' := [some (.int x0)]) (st' := [.int (1 : Int32), .int (0 : Int32), .int x0]) rfl ?_
  obtain ⟨z1, e2, h⟩ := Option.bind_eq_some_iff.mp h
  refine E_callI (vs := [.int x0, .int (0 : Int32), .int (1 : Int32)]) (rest := []) rfl (by decide) rfl rfl (Nat.le_of_ble_eq_true rfl) (s195 e2) (by decide) ?_
  obtain ⟨g3, h⟩ := ifg_some h
  cases h
  exact E_ret rfl (pg_mt_md (by decide)) (hk_retz g3 rfl) hr

-- 218: ThreePlatesModel.isLaying(IIIII)Z
def dn218 (o : xH × Option Value) (r : xS × Int32) : Prop := o = (hk_of r.1, some (.int r.2))
noncomputable def f218_55 (y0 : Int32) (s : xS) : Option (xS × Int32) := ifg (y0 = 0 ∨ y0 = 1) <| some (s, y0)
set_option maxRecDepth 20000 in
theorem s218_55 {sc : Option (Nat × (Nat → Int32))} {y0 : Int32} {s : xS} {o : xH × Option Value} {r : (xS × Int32)}  (h : f218_55 y0 s = some r) (hr : dn218 o r) : Ev sc 3 218 [] 55 [none, none, none, none, none, none] [.int y0] (hk_of s) o := by
  unfold f218_55 at h
  refine E_blk rfl ?_
  obtain ⟨g1, h⟩ := ifg_some h
  cases h
  exact E_ret rfl (pg_mt_md (by decide)) (hk_retz g1 rfl) hr
noncomputable def f218_54  (s : xS) : Option (xS × Int32) := f218_55 (0 : Int32) s
set_option maxRecDepth 20000 in
theorem s218_54 {sc : Option (Nat × (Nat → Int32))}  {s : xS} {o : xH × Option Value} {r : (xS × Int32)}  (h : f218_54  s = some r) (hr : dn218 o r) : Ev sc 3 218 [] 54 [none, none, none, none, none, none] [] (hk_of s) o := by
  unfold f218_54 at h
  refine E_blk rfl ?_
  refine E_ps 1 (pc' := 55) (l' := [none, none, none, none, none, none]) (st' := [.int (0 : Int32)]) rfl ?_
  exact E_wk (l' := [none, none, none, none, none, none]) trivial (s218_55  h hr)
noncomputable def f218 (x0 : Nat) (x1 : Int32) (x2 : Int32) (x3 : Int32) (x4 : Int32) (x5 : Int32) (s : xS) : Option (xS × Int32) := ifg (oK x0 12 = true) <| (f198 x0 x1 s).bind fun z1 => if z1.2 = 0 then (f218_54  z1.1) else ((f198 x0 x2 z1.1).bind fun z4 => if z4.2 = 0 then (f218_54  z4.1) else (if x1 = x2 then (f218_54  z4.1) else ((f195 x3 (0 : Int32) (3 : Int32) z4.1).bind fun z8 => if z8.2 = 0 then (f218_54  z8.1) else ((f195 x4 (-1 : Int32) (1 : Int32) z8.1).bind fun z11 => if z11.2 = 0 then (f218_54  z11.1) else ((f195 x5 (-1 : Int32) (1 : Int32) z11.1).bind fun z14 => if z14.2 = 0 then (f218_54  z14.1) else (f218_55 (1 : Int32) z14.1))))))
set_option maxRecDepth 20000 in
theorem s218 {sc : Option (Nat × (Nat → Int32))} {x0 : Nat} {x1 : Int32} {x2 : Int32} {x3 : Int32} {x4 : Int32} {x5 : Int32} {s : xS} {r : xS × Int32} (h : f218 x0 x1 x2 x3 x4 x5 s = some r) : Cl sc 3 218 [.ref x0, .int x1, .int x2, .int x3, .int x4, .int x5] (hk_of s) (hk_of r.1, some (.int r.2)) := by
  unfold f218 at h
  obtain ⟨k0, h⟩ := ifg_some h
  refine ⟨pg_md 218, [some (.ref x0), some (.int x1), some (.int x2), some (.int x3), some (.int x4), some (.int x5)], pg_mt_md (by decide), (hk_rcv k0), rfl, ?_⟩
  generalize ho : ((hk_of r.1, some (Value.int r.2)) : xH × Option Value) = o
  have hr : dn218 o r := ho.symm
  refine E_blk rfl ?_
  refine E_ps 2 (pc' := 2) (l' := [some (.ref x0), some (.int x1), some (.int x2), some (.int x3), some (.int x4), some (.int x5)]) (st' := [.int x1, .ref x0]) rfl ?_
  obtain ⟨z1, e2, h⟩ := Option.bind_eq_some_iff.mp h
  refine E_callI (vs := [.ref x0, .int x1]) (rest := []) rfl (by decide) rfl rfl (Nat.le_of_ble_eq_true rfl) (s198 e2) (by decide) ?_
  by_cases c3 : z1.2 = 0
  · rw [if_pos c3] at h
    refine E_jt rfl rfl c3 ?_
    exact E_wk (l' := [none, none, none, none, none, none]) trivial (s218_54  h hr)
  · rw [if_neg c3] at h
    refine E_jf rfl rfl c3 ?_
    refine E_blk rfl ?_
    refine E_ps 2 (pc' := 10) (l' := [some (.ref x0), some (.int x1), some (.int x2), some (.int x3), some (.int x4), some (.int x5)]) (st' := [.int x2, .ref x0]) rfl ?_
    obtain ⟨z4, e5, h⟩ := Option.bind_eq_some_iff.mp h
    refine E_callI (vs := [.ref x0, .int x2]) (rest := []) rfl (by decide) rfl rfl (Nat.le_of_ble_eq_true rfl) (s198 e5) (by decide) ?_
    by_cases c6 : z4.2 = 0
    · rw [if_pos c6] at h
      refine E_jt rfl rfl c6 ?_
      exact E_wk (l' := [none, none, none, none, none, none]) trivial (s218_54  h hr)
    · rw [if_neg c6] at h
      refine E_jf rfl rfl c6 ?_
      refine E_blk rfl ?_
      refine E_ps 2 (pc' := 18) (l' := [some (.ref x0), some (.int x1), some (.int x2), some (.int x3), some (.int x4), some (.int x5)]) (st' := [.int x2, .int x1]) rfl ?_
      by_cases c7 : x1 = x2
      · rw [if_pos c7] at h
        refine E_jt rfl rfl c7 ?_
        exact E_wk (l' := [none, none, none, none, none, none]) trivial (s218_54  h hr)
      · rw [if_neg c7] at h
        refine E_jf rfl rfl c7 ?_
        refine E_blk rfl ?_
        refine E_ps 3 (pc' := 24) (l' := [some (.ref x0), some (.int x1), some (.int x2), some (.int x3), some (.int x4), some (.int x5)]) (st' := [.int (3 : Int32), .int (0 : Int32), .int x3]) rfl ?_
        obtain ⟨z8, e9, h⟩ := Option.bind_eq_some_iff.mp h
        refine E_callI (vs := [.int x3, .int (0 : Int32), .int (3 : Int32)]) (rest := []) rfl (by decide) rfl rfl (Nat.le_of_ble_eq_true rfl) (s195 e9) (by decide) ?_
        by_cases c10 : z8.2 = 0
        · rw [if_pos c10] at h
          refine E_jt rfl rfl c10 ?_
          exact E_wk (l' := [none, none, none, none, none, none]) trivial (s218_54  h hr)
        · rw [if_neg c10] at h
          refine E_jf rfl rfl c10 ?_
          refine E_blk rfl ?_
          refine E_ps 3 (pc' := 34) (l' := [some (.ref x0), some (.int x1), some (.int x2), some (.int x3), some (.int x4), some (.int x5)]) (st' := [.int (1 : Int32), .int (-1 : Int32), .int x4]) rfl ?_
          obtain ⟨z11, e12, h⟩ := Option.bind_eq_some_iff.mp h
          refine E_callI (vs := [.int x4, .int (-1 : Int32), .int (1 : Int32)]) (rest := []) rfl (by decide) rfl rfl (Nat.le_of_ble_eq_true rfl) (s195 e12) (by decide) ?_
          by_cases c13 : z11.2 = 0
          · rw [if_pos c13] at h
            refine E_jt rfl rfl c13 ?_
            exact E_wk (l' := [none, none, none, none, none, none]) trivial (s218_54  h hr)
          · rw [if_neg c13] at h
            refine E_jf rfl rfl c13 ?_
            refine E_blk rfl ?_
            refine E_ps 3 (pc' := 44) (l' := [some (.ref x0), some (.int x1), some (.int x2), some (.int x3), some (.int x4), some (.int x5)]) (st' := [.int (1 : Int32), .int (-1 : Int32), .int x5]) rfl ?_
            obtain ⟨z14, e15, h⟩ := Option.bind_eq_some_iff.mp h
            refine E_callI (vs := [.int x5, .int (-1 : Int32), .int (1 : Int32)]) (rest := []) rfl (by decide) rfl rfl (Nat.le_of_ble_eq_true rfl) (s195 e15) (by decide) ?_
            by_cases c16 : z14.2 = 0
            · rw [if_pos c16] at h
              refine E_jt rfl rfl c16 ?_
              exact E_wk (l' := [none, none, none, none, none, none]) trivial (s218_54  h hr)
            · rw [if_neg c16] at h
              refine E_jf rfl rfl c16 ?_
              refine E_blk rfl ?_
              refine E_ps 1 (pc' := 51) (l' := [some (.ref x0), some (.int x1), some (.int x2), some (.int x3), some (.int x4), some (.int x5)]) (st' := [.int (1 : Int32)]) rfl ?_
              refine E_j rfl rfl ?_
              exact E_wk (l' := [none, none, none, none, none, none]) trivial (s218_55  h hr)

-- 219: ThreePlatesModel.layDown(IIIII)V
def dn219 (o : xH × Option Value) (r : xS × Unit) : Prop := o = (hk_of r.1, none)
noncomputable def f219 (x0 : Nat) (x1 : Int32) (x2 : Int32) (x3 : Int32) (x4 : Int32) (x5 : Int32) (s : xS) : Option (xS × Unit) := ifg (oK x0 12 = true) <| (f206 x0 x1 x2 x3 x4 x5 s).bind fun z1 => (f212 x0 z1.1).bind fun z3 => some (z3.1, ())
set_option maxRecDepth 20000 in
theorem s219 {sc : Option (Nat × (Nat → Int32))} {x0 : Nat} {x1 : Int32} {x2 : Int32} {x3 : Int32} {x4 : Int32} {x5 : Int32} {s : xS} {r : xS × Unit} (h : f219 x0 x1 x2 x3 x4 x5 s = some r) : Cl sc 5 219 [.ref x0, .int x1, .int x2, .int x3, .int x4, .int x5] (hk_of s) (hk_of r.1, none) := by
  unfold f219 at h
  obtain ⟨k0, h⟩ := ifg_some h
  refine ⟨pg_md 219, [some (.ref x0), some (.int x1), some (.int x2), some (.int x3), some (.int x4), some (.int x5)], pg_mt_md (by decide), (hk_rcv k0), rfl, ?_⟩
  generalize ho : ((hk_of r.1, none) : xH × Option Value) = o
  have hr : dn219 o r := ho.symm
  refine E_blk rfl ?_
  refine E_ps 6 (pc' := 8) (l' := [some (.ref x0), some (.int x1), some (.int x2), some (.int x3), some (.int x4), some (.int x5)]) (st' := [.int x5, .int x4, .int x3, .int x2, .int x1, .ref x0]) rfl ?_
  obtain ⟨z1, e2, h⟩ := Option.bind_eq_some_iff.mp h
  refine E_callV (vs := [.ref x0, .int x1, .int x2, .int x3, .int x4, .int x5]) (rest := []) rfl (by decide) rfl rfl (Nat.le_of_ble_eq_true rfl) (s206 e2) (by decide) ?_
  refine E_ps 1 (pc' := 12) (l' := [some (.ref x0), some (.int x1), some (.int x2), some (.int x3), some (.int x4), some (.int x5)]) (st' := [.ref x0]) rfl ?_
  obtain ⟨z3, e4, h⟩ := Option.bind_eq_some_iff.mp h
  refine E_callV (vs := [.ref x0]) (rest := []) rfl (by decide) rfl rfl (Nat.le_of_ble_eq_true rfl) (s212 e4) (by decide) ?_
  cases h
  exact E_ret rfl (pg_mt_md (by decide)) rfl hr

-- 220: ThreePlatesModel.lay(IIIIII)I
def dn220 (o : xH × Option Value) (r : xS × Int32) : Prop := o = (hk_of r.1, some (.int r.2))
def dn220_43 (sc : Option (Nat × (Nat → Int32))) (x0 : Nat) (x6 : Int32) (o : xH × Option Value) (r : ((Int32 × Int32 × xS) ⊕ (xS × Int32))) : Prop := match r with
  | .inl q => Ev sc 6 220 [] 43 [some (.ref x0), none, none, none, none, none, some (.int x6), some (.int q.1), some (.int q.2.1)] [] (hk_of q.2.2) o
  | .inr r => dn220 o r
noncomputable def f220_24  (s : xS) : Option (xS × Int32) := some (s, (-1 : Int32))
set_option maxRecDepth 20000 in
theorem s220_24 {sc : Option (Nat × (Nat → Int32))}  {s : xS} {o : xH × Option Value} {r : (xS × Int32)}  (h : f220_24  s = some r) (hr : dn220 o r) : Ev sc 6 220 [] 24 [none, none, none, none, none, none, none, none, none] [] (hk_of s) o := by
  unfold f220_24 at h
  refine E_blk rfl ?_
  refine E_ps 1 (pc' := 25) (l' := [none, none, none, none, none, none, none, none, none]) (st' := [.int (-1 : Int32)]) rfl ?_
  cases h
  exact E_ret rfl (pg_mt_md (by decide)) rfl hr
noncomputable def f220_91 (y0 : Int32) (s : xS) : Option (xS × Int32) := some (s, y0)
set_option maxRecDepth 20000 in
theorem s220_91 {sc : Option (Nat × (Nat → Int32))} {y0 : Int32} {s : xS} {o : xH × Option Value} {r : (xS × Int32)}  (h : f220_91 y0 s = some r) (hr : dn220 o r) : Ev sc 6 220 [] 91 [none, none, none, none, none, none, none, none, none] [.int y0] (hk_of s) o := by
  unfold f220_91 at h
  refine E_blk rfl ?_
  cases h
  exact E_ret rfl (pg_mt_md (by decide)) rfl hr
noncomputable def f220_68 (x0 : Nat) (x6 : Int32) (x8 : Int32) (y0 : Int32) (y1 : Int32) (s : xS) : Option ((Int32 × Int32 × xS) ⊕ (xS × Int32)) := some (Sum.inl ((y1 + y0), (x8 + (1 : Int32)), s))
set_option maxRecDepth 20000 in
theorem s220_68 {sc : Option (Nat × (Nat → Int32))} {x0 : Nat} {x6 : Int32} {x8 : Int32} {y0 : Int32} {y1 : Int32} {s : xS} {o : xH × Option Value} {r : ((Int32 × Int32 × xS) ⊕ (xS × Int32))} (k0 : oK x0 12 = true) (h : f220_68 x0 x6 x8 y0 y1 s = some r) (hr : dn220_43 sc x0 x6 o r) : Ev sc 6 220 [] 68 [some (.ref x0), none, none, none, none, none, some (.int x6), none, some (.int x8)] [.int y0, .int y1] (hk_of s) o := by
  unfold f220_68 at h
  refine E_blk rfl ?_
  refine E_ps 3 (pc' := 74) (l' := [some (.ref x0), none, none, none, none, none, some (.int x6), some (.int (y1 + y0)), some (.int (x8 + (1 : Int32)))]) (st' := []) rfl ?_
  refine E_j rfl rfl ?_
  cases h
  exact E_wk (l' := [some (.ref x0), none, none, none, none, none, some (.int x6), some (.int (y1 + y0)), some (.int (x8 + (1 : Int32)))]) ⟨rfl, rfl, rfl, rfl, trivial⟩ hr
noncomputable def f220_43 (x0 : Nat) (x6 : Int32) (x7 : Int32) (x8 : Int32) (s : xS) : Option ((Int32 × Int32 × xS) ⊕ (xS × Int32)) := (f197 x0 s).bind fun z1 => if z1.2 ≤ x8 then (Option.map Sum.inr (if x6 = 0 then (f220_91 x7 z1.1) else (f220_91 (z1.1.1 x0 41) z1.1))) else ((f214 x0 x8 z1.1).bind fun z5 => if z5.2 = 0 then (f220_68 x0 x6 x8 (0 : Int32) x7 z5.1) else (f220_68 x0 x6 x8 (1 : Int32) x7 z5.1))
set_option maxRecDepth 20000 in
theorem s220_43 {sc : Option (Nat × (Nat → Int32))} {x0 : Nat} {x6 : Int32} {x7 : Int32} {x8 : Int32} {s : xS} {o : xH × Option Value} {r : ((Int32 × Int32 × xS) ⊕ (xS × Int32))} (k0 : oK x0 12 = true) (h : f220_43 x0 x6 x7 x8 s = some r) (hr : dn220_43 sc x0 x6 o r) : Ev sc 6 220 [] 43 [some (.ref x0), none, none, none, none, none, some (.int x6), some (.int x7), some (.int x8)] [] (hk_of s) o := by
  unfold f220_43 at h
  refine E_blk rfl ?_
  refine E_ps 2 (pc' := 46) (l' := [some (.ref x0), none, none, none, none, none, some (.int x6), some (.int x7), some (.int x8)]) (st' := [.ref x0, .int x8]) rfl ?_
  obtain ⟨z1, e2, h⟩ := Option.bind_eq_some_iff.mp h
  refine E_callI (vs := [.ref x0]) (rest := [.int x8]) rfl (by decide) rfl rfl (Nat.le_of_ble_eq_true rfl) (s197 e2) (by decide) ?_
  by_cases c3 : z1.2 ≤ x8
  · rw [if_pos c3] at h
    refine E_jt rfl rfl c3 ?_
    obtain ⟨r, h, hr⟩ := lf_some (Dn := dn220_43 sc x0 x6 o) h hr
    refine E_blk rfl ?_
    refine E_ps 1 (pc' := 79) (l' := [some (.ref x0), none, none, none, none, none, some (.int x6), some (.int x7), some (.int x8)]) (st' := [.int x6]) rfl ?_
    by_cases c4 : x6 = 0
    · rw [if_pos c4] at h
      refine E_jt rfl rfl c4 ?_
      refine E_blk rfl ?_
      refine E_ps 1 (pc' := 84) (l' := [some (.ref x0), none, none, none, none, none, some (.int x6), some (.int x7), some (.int x8)]) (st' := [.int x7]) rfl ?_
      refine E_j rfl rfl ?_
      exact E_wk (l' := [none, none, none, none, none, none, none, none, none]) trivial (s220_91  h hr)
    · rw [if_neg c4] at h
      refine E_jf rfl rfl c4 ?_
      refine E_blk rfl ?_
      refine E_ps 1 (pc' := 88) (l' := [some (.ref x0), none, none, none, none, none, some (.int x6), some (.int x7), some (.int x8)]) (st' := [.ref x0]) rfl ?_
      refine E_gi k0 (by decide) rfl ?_
      exact E_wk (l' := [none, none, none, none, none, none, none, none, none]) trivial (s220_91  h hr)
  · rw [if_neg c3] at h
    refine E_jf rfl rfl c3 ?_
    refine E_blk rfl ?_
    refine E_ps 3 (pc' := 57) (l' := [some (.ref x0), none, none, none, none, none, some (.int x6), some (.int x7), some (.int x8)]) (st' := [.int x8, .ref x0, .int x7]) rfl ?_
    obtain ⟨z5, e6, h⟩ := Option.bind_eq_some_iff.mp h
    refine E_callI (vs := [.ref x0, .int x8]) (rest := [.int x7]) rfl (by decide) rfl rfl (Nat.le_of_ble_eq_true rfl) (s214 e6) (by decide) ?_
    by_cases c7 : z5.2 = 0
    · rw [if_pos c7] at h
      refine E_jt rfl rfl c7 ?_
      refine E_blk rfl ?_
      refine E_ps 1 (pc' := 68) (l' := [some (.ref x0), none, none, none, none, none, some (.int x6), some (.int x7), some (.int x8)]) (st' := [.int (0 : Int32), .int x7]) rfl ?_
      exact E_wk (l' := [some (.ref x0), none, none, none, none, none, some (.int x6), none, some (.int x8)]) ⟨rfl, rfl, rfl, trivial⟩ (s220_68 k0 h hr)
    · rw [if_neg c7] at h
      refine E_jf rfl rfl c7 ?_
      refine E_blk rfl ?_
      refine E_ps 1 (pc' := 64) (l' := [some (.ref x0), none, none, none, none, none, some (.int x6), some (.int x7), some (.int x8)]) (st' := [.int (1 : Int32), .int x7]) rfl ?_
      refine E_j rfl rfl ?_
      exact E_wk (l' := [some (.ref x0), none, none, none, none, none, some (.int x6), none, some (.int x8)]) ⟨rfl, rfl, rfl, trivial⟩ (s220_68 k0 h hr)
theorem s220_43_w {sc : Option (Nat × (Nat → Int32))} {x0 : Nat} {x6 : Int32} {x7 : Int32} {x8 : Int32} {s : xS} {o : xH × Option Value} {r : (xS × Int32)} (k0 : oK x0 12 = true) (h : whl (fun q : (Int32 × Int32 × xS) => f220_43 x0 x6 q.1 q.2.1 q.2.2) (x7, x8, s) = some r) (hr : dn220 o r) : Ev sc 6 220 [] 43 [some (.ref x0), none, none, none, none, none, some (.int x6), some (.int x7), some (.int x8)] [] (hk_of s) o := by
  refine whl_snd (E := fun q : (Int32 × Int32 × xS) => Ev sc 6 220 [] 43 [some (.ref x0), none, none, none, none, none, some (.int x6), some (.int q.1), some (.int q.2.1)] [] (hk_of q.2.2) o) (P := fun r => dn220 o r) (fun q r h hr => ?_) h hr
  exact s220_43 k0 h (by cases r <;> exact hr)
noncomputable def f220 (x0 : Nat) (x1 : Int32) (x2 : Int32) (x3 : Int32) (x4 : Int32) (x5 : Int32) (x6 : Int32) (s : xS) : Option (xS × Int32) := ifg (oK x0 12 = true) <| (f218 x0 x1 x2 x3 x4 x5 s).bind fun z1 => if z1.2 = 0 then (f220_24  z1.1) else ((f195 x6 (0 : Int32) (1 : Int32) z1.1).bind fun z4 => if z4.2 = 0 then (f220_24  z4.1) else ((f219 x0 x1 x2 x3 x4 x5 z4.1).bind fun z7 => whl (fun q : (Int32 × Int32 × xS) => f220_43 x0 x6 q.1 q.2.1 q.2.2) ((0 : Int32), (0 : Int32), z7.1)))
set_option maxRecDepth 20000 in
theorem s220 {sc : Option (Nat × (Nat → Int32))} {x0 : Nat} {x1 : Int32} {x2 : Int32} {x3 : Int32} {x4 : Int32} {x5 : Int32} {x6 : Int32} {s : xS} {r : xS × Int32} (h : f220 x0 x1 x2 x3 x4 x5 x6 s = some r) : Cl sc 6 220 [.ref x0, .int x1, .int x2, .int x3, .int x4, .int x5, .int x6] (hk_of s) (hk_of r.1, some (.int r.2)) := by
  unfold f220 at h
  obtain ⟨k0, h⟩ := ifg_some h
  refine ⟨pg_md 220, [some (.ref x0), some (.int x1), some (.int x2), some (.int x3), some (.int x4), some (.int x5), some (.int x6), none, none], pg_mt_md (by decide), (hk_rcv k0), rfl, ?_⟩
  generalize ho : ((hk_of r.1, some (Value.int r.2)) : xH × Option Value) = o
  have hr : dn220 o r := ho.symm
  refine E_blk rfl ?_
  refine E_ps 6 (pc' := 8) (l' := [some (.ref x0), some (.int x1), some (.int x2), some (.int x3), some (.int x4), some (.int x5), some (.int x6), none, none]) (st' := [.int x5, .int x4, .int x3, .int x2, .int x1, .ref x0]) rfl ?_
  obtain ⟨z1, e2, h⟩ := Option.bind_eq_some_iff.mp h
  refine E_callI (vs := [.ref x0, .int x1, .int x2, .int x3, .int x4, .int x5]) (rest := []) rfl (by decide) rfl rfl (Nat.le_of_ble_eq_true rfl) (s218 e2) (by decide) ?_
  by_cases c3 : z1.2 = 0
  · rw [if_pos c3] at h
    refine E_jt rfl rfl c3 ?_
    exact E_wk (l' := [none, none, none, none, none, none, none, none, none]) trivial (s220_24  h hr)
  · rw [if_neg c3] at h
    refine E_jf rfl rfl c3 ?_
    refine E_blk rfl ?_
    refine E_ps 3 (pc' := 18) (l' := [some (.ref x0), some (.int x1), some (.int x2), some (.int x3), some (.int x4), some (.int x5), some (.int x6), none, none]) (st' := [.int (1 : Int32), .int (0 : Int32), .int x6]) rfl ?_
    obtain ⟨z4, e5, h⟩ := Option.bind_eq_some_iff.mp h
    refine E_callI (vs := [.int x6, .int (0 : Int32), .int (1 : Int32)]) (rest := []) rfl (by decide) rfl rfl (Nat.le_of_ble_eq_true rfl) (s195 e5) (by decide) ?_
    by_cases c6 : z4.2 = 0
    · rw [if_pos c6] at h
      refine E_jt rfl rfl c6 ?_
      exact E_wk (l' := [none, none, none, none, none, none, none, none, none]) trivial (s220_24  h hr)
    · rw [if_neg c6] at h
      refine E_jf rfl rfl c6 ?_
      refine E_blk rfl ?_
      refine E_ps 6 (pc' := 34) (l' := [some (.ref x0), some (.int x1), some (.int x2), some (.int x3), some (.int x4), some (.int x5), some (.int x6), none, none]) (st' := [.int x5, .int x4, .int x3, .int x2, .int x1, .ref x0]) rfl ?_
      obtain ⟨z7, e8, h⟩ := Option.bind_eq_some_iff.mp h
      refine E_callV (vs := [.ref x0, .int x1, .int x2, .int x3, .int x4, .int x5]) (rest := []) rfl (by decide) rfl rfl (Nat.le_of_ble_eq_true rfl) (s219 e8) (by decide) ?_
      refine E_ps 4 (pc' := 43) (l' := [some (.ref x0), some (.int x1), some (.int x2), some (.int x3), some (.int x4), some (.int x5), some (.int x6), some (.int (0 : Int32)), some (.int (0 : Int32))]) (st' := []) rfl ?_
      exact E_wk (l' := [some (.ref x0), none, none, none, none, none, some (.int x6), some (.int (0 : Int32)), some (.int (0 : Int32))]) ⟨rfl, rfl, rfl, rfl, trivial⟩ (s220_43_w k0 h hr)

-- 221: ThreePlatesModel.gap(IIIIIII)I
def dn221 (o : xH × Option Value) (r : xS × Int32) : Prop := o = (hk_of r.1, some (.int r.2))
noncomputable def f221_32  (s : xS) : Option (xS × Int32) := some (s, (-1 : Int32))
set_option maxRecDepth 20000 in
theorem s221_32 {sc : Option (Nat × (Nat → Int32))}  {s : xS} {o : xH × Option Value} {r : (xS × Int32)}  (h : f221_32  s = some r) (hr : dn221 o r) : Ev sc 6 221 [] 32 [none, none, none, none, none, none, none, none] [] (hk_of s) o := by
  unfold f221_32 at h
  refine E_blk rfl ?_
  refine E_ps 1 (pc' := 33) (l' := [none, none, none, none, none, none, none, none]) (st' := [.int (-1 : Int32)]) rfl ?_
  cases h
  exact E_ret rfl (pg_mt_md (by decide)) rfl hr
noncomputable def f221_75 (y0 : Int32) (s : xS) : Option (xS × Int32) := some (s, y0)
set_option maxRecDepth 20000 in
theorem s221_75 {sc : Option (Nat × (Nat → Int32))} {y0 : Int32} {s : xS} {o : xH × Option Value} {r : (xS × Int32)}  (h : f221_75 y0 s = some r) (hr : dn221 o r) : Ev sc 6 221 [] 75 [none, none, none, none, none, none, none, none] [.int y0] (hk_of s) o := by
  unfold f221_75 at h
  refine E_blk rfl ?_
  cases h
  exact E_ret rfl (pg_mt_md (by decide)) rfl hr
noncomputable def f221 (x0 : Nat) (x1 : Int32) (x2 : Int32) (x3 : Int32) (x4 : Int32) (x5 : Int32) (x6 : Int32) (x7 : Int32) (s : xS) : Option (xS × Int32) := ifg (oK x0 12 = true) <| (f218 x0 x1 x2 x3 x4 x5 s).bind fun z1 => if z1.2 = 0 then (f221_32  z1.1) else ((f199 x0 x1 x6 z1.1).bind fun z4 => if z4.2 = 0 then (f221_32  z4.1) else ((f217 x7 z4.1).bind fun z7 => if z7.2 = 0 then (f221_32  z7.1) else ((f219 x0 x1 x2 x3 x4 x5 z7.1).bind fun z10 => (hk_R x0 39).bind fun a12 => (aI z10.1 a12 x6).bind fun v14 => if 0 ≤ v14 then ((f213 x0 x6 z10.1).bind fun z17 => (f216 z17.2 (z17.1.2 x0 45) x7 z17.1).bind fun z19 => f221_75 (z19.2).toInt32 z19.1) else (f221_75 (-1 : Int32) z10.1))))
set_option maxRecDepth 20000 in
theorem s221 {sc : Option (Nat × (Nat → Int32))} {x0 : Nat} {x1 : Int32} {x2 : Int32} {x3 : Int32} {x4 : Int32} {x5 : Int32} {x6 : Int32} {x7 : Int32} {s : xS} {r : xS × Int32} (h : f221 x0 x1 x2 x3 x4 x5 x6 x7 s = some r) : Cl sc 6 221 [.ref x0, .int x1, .int x2, .int x3, .int x4, .int x5, .int x6, .int x7] (hk_of s) (hk_of r.1, some (.int r.2)) := by
  unfold f221 at h
  obtain ⟨k0, h⟩ := ifg_some h
  refine ⟨pg_md 221, [some (.ref x0), some (.int x1), some (.int x2), some (.int x3), some (.int x4), some (.int x5), some (.int x6), some (.int x7)], pg_mt_md (by decide), (hk_rcv k0), rfl, ?_⟩
  generalize ho : ((hk_of r.1, some (Value.int r.2)) : xH × Option Value) = o
  have hr : dn221 o r := ho.symm
  refine E_blk rfl ?_
  refine E_ps 6 (pc' := 8) (l' := [some (.ref x0), some (.int x1), some (.int x2), some (.int x3), some (.int x4), some (.int x5), some (.int x6), some (.int x7)]) (st' := [.int x5, .int x4, .int x3, .int x2, .int x1, .ref x0]) rfl ?_
  obtain ⟨z1, e2, h⟩ := Option.bind_eq_some_iff.mp h
  refine E_callI (vs := [.ref x0, .int x1, .int x2, .int x3, .int x4, .int x5]) (rest := []) rfl (by decide) rfl rfl (Nat.le_of_ble_eq_true rfl) (s218 e2) (by decide) ?_
  by_cases c3 : z1.2 = 0
  · rw [if_pos c3] at h
    refine E_jt rfl rfl c3 ?_
    exact E_wk (l' := [none, none, none, none, none, none, none, none]) trivial (s221_32  h hr)
  · rw [if_neg c3] at h
    refine E_jf rfl rfl c3 ?_
    refine E_blk rfl ?_
    refine E_ps 3 (pc' := 18) (l' := [some (.ref x0), some (.int x1), some (.int x2), some (.int x3), some (.int x4), some (.int x5), some (.int x6), some (.int x7)]) (st' := [.int x6, .int x1, .ref x0]) rfl ?_
    obtain ⟨z4, e5, h⟩ := Option.bind_eq_some_iff.mp h
    refine E_callI (vs := [.ref x0, .int x1, .int x6]) (rest := []) rfl (by decide) rfl rfl (Nat.le_of_ble_eq_true rfl) (s199 e5) (by decide) ?_
    by_cases c6 : z4.2 = 0
    · rw [if_pos c6] at h
      refine E_jt rfl rfl c6 ?_
      exact E_wk (l' := [none, none, none, none, none, none, none, none]) trivial (s221_32  h hr)
    · rw [if_neg c6] at h
      refine E_jf rfl rfl c6 ?_
      refine E_blk rfl ?_
      refine E_ps 1 (pc' := 26) (l' := [some (.ref x0), some (.int x1), some (.int x2), some (.int x3), some (.int x4), some (.int x5), some (.int x6), some (.int x7)]) (st' := [.int x7]) rfl ?_
      obtain ⟨z7, e8, h⟩ := Option.bind_eq_some_iff.mp h
      refine E_callI (vs := [.int x7]) (rest := []) rfl (by decide) rfl rfl (Nat.le_of_ble_eq_true rfl) (s217 e8) (by decide) ?_
      by_cases c9 : z7.2 = 0
      · rw [if_pos c9] at h
        refine E_jt rfl rfl c9 ?_
        exact E_wk (l' := [none, none, none, none, none, none, none, none]) trivial (s221_32  h hr)
      · rw [if_neg c9] at h
        refine E_jf rfl rfl c9 ?_
        refine E_blk rfl ?_
        refine E_ps 6 (pc' := 42) (l' := [some (.ref x0), some (.int x1), some (.int x2), some (.int x3), some (.int x4), some (.int x5), some (.int x6), some (.int x7)]) (st' := [.int x5, .int x4, .int x3, .int x2, .int x1, .ref x0]) rfl ?_
        obtain ⟨z10, e11, h⟩ := Option.bind_eq_some_iff.mp h
        refine E_callV (vs := [.ref x0, .int x1, .int x2, .int x3, .int x4, .int x5]) (rest := []) rfl (by decide) rfl rfl (Nat.le_of_ble_eq_true rfl) (s219 e11) (by decide) ?_
        refine E_ps 1 (pc' := 46) (l' := [some (.ref x0), some (.int x1), some (.int x2), some (.int x3), some (.int x4), some (.int x5), some (.int x6), some (.int x7)]) (st' := [.ref x0]) rfl ?_
        obtain ⟨a12, e13, h⟩ := Option.bind_eq_some_iff.mp h
        refine E_gr k0 (by decide) rfl e13 ?_
        refine E_ps 1 (pc' := 51) (l' := [some (.ref x0), some (.int x1), some (.int x2), some (.int x3), some (.int x4), some (.int x5), some (.int x6), some (.int x7)]) (st' := [.int x6, .ref a12]) rfl ?_
        obtain ⟨v14, e15, h⟩ := Option.bind_eq_some_iff.mp h
        refine E_ai e15 ?_
        by_cases c16 : 0 ≤ v14
        · rw [if_pos c16] at h
          refine E_jt rfl rfl c16 ?_
          refine E_blk rfl ?_
          refine E_ps 2 (pc' := 62) (l' := [some (.ref x0), some (.int x1), some (.int x2), some (.int x3), some (.int x4), some (.int x5), some (.int x6), some (.int x7)]) (st' := [.int x6, .ref x0]) rfl ?_
          obtain ⟨z17, e18, h⟩ := Option.bind_eq_some_iff.mp h
          refine E_callL (vs := [.ref x0, .int x6]) (rest := []) rfl (by decide) rfl rfl (Nat.le_of_ble_eq_true rfl) (s213 e18) (by decide) ?_
          refine E_ps 1 (pc' := 66) (l' := [some (.ref x0), some (.int x1), some (.int x2), some (.int x3), some (.int x4), some (.int x5), some (.int x6), some (.int x7)]) (st' := [.ref x0, .long z17.2]) rfl ?_
          refine E_gl k0 (by decide) rfl ?_
          refine E_ps 1 (pc' := 71) (l' := [some (.ref x0), some (.int x1), some (.int x2), some (.int x3), some (.int x4), some (.int x5), some (.int x6), some (.int x7)]) (st' := [.int x7, .long (z17.1.2 x0 45), .long z17.2]) rfl ?_
          obtain ⟨z19, e20, h⟩ := Option.bind_eq_some_iff.mp h
          refine E_callL (vs := [.long z17.2, .long (z17.1.2 x0 45), .int x7]) (rest := []) rfl (by decide) rfl rfl (Nat.le_of_ble_eq_true rfl) (s216 e20) (by decide) ?_
          refine E_ps 1 (pc' := 75) (l' := [some (.ref x0), some (.int x1), some (.int x2), some (.int x3), some (.int x4), some (.int x5), some (.int x6), some (.int x7)]) (st' := [.int (z19.2).toInt32]) rfl ?_
          exact E_wk (l' := [none, none, none, none, none, none, none, none]) trivial (s221_75  h hr)
        · rw [if_neg c16] at h
          refine E_jf rfl rfl c16 ?_
          refine E_blk rfl ?_
          refine E_ps 1 (pc' := 56) (l' := [some (.ref x0), some (.int x1), some (.int x2), some (.int x3), some (.int x4), some (.int x5), some (.int x6), some (.int x7)]) (st' := [.int (-1 : Int32)]) rfl ?_
          refine E_j rfl rfl ?_
          exact E_wk (l' := [none, none, none, none, none, none, none, none]) trivial (s221_75  h hr)

-- 222: ThreePlatesModel.gapSum()J
def dn222 (o : xH × Option Value) (r : xS × Int64) : Prop := o = (hk_of r.1, some (.long r.2))
def dn222_4 (sc : Option (Nat × (Nat → Int32))) (x0 : Nat) (o : xH × Option Value) (r : ((Int64 × Int32 × xS) ⊕ (xS × Int64))) : Prop := match r with
  | .inl q => Ev sc 4 222 [] 4 [some (.ref x0), some (.long q.1), none, some (.int q.2.1)] [] (hk_of q.2.2) o
  | .inr r => dn222 o r
noncomputable def f222_31 (x0 : Nat) (x3 : Int32) (y0 : Int64) (y1 : Int64) (s : xS) : Option ((Int64 × Int32 × xS) ⊕ (xS × Int64)) := some (Sum.inl ((y1 + y0), (x3 + (1 : Int32)), s))
set_option maxRecDepth 20000 in
theorem s222_31 {sc : Option (Nat × (Nat → Int32))} {x0 : Nat} {x3 : Int32} {y0 : Int64} {y1 : Int64} {s : xS} {o : xH × Option Value} {r : ((Int64 × Int32 × xS) ⊕ (xS × Int64))} (k0 : oK x0 12 = true) (h : f222_31 x0 x3 y0 y1 s = some r) (hr : dn222_4 sc x0 o r) : Ev sc 4 222 [] 31 [some (.ref x0), none, none, some (.int x3)] [.long y0, .long y1] (hk_of s) o := by
  unfold f222_31 at h
  refine E_blk rfl ?_
  refine E_ps 3 (pc' := 36) (l' := [some (.ref x0), some (.long (y1 + y0)), none, some (.int (x3 + (1 : Int32)))]) (st' := []) rfl ?_
  refine E_j rfl rfl ?_
  cases h
  exact E_wk (l' := [some (.ref x0), some (.long (y1 + y0)), none, some (.int (x3 + (1 : Int32)))]) ⟨rfl, rfl, rfl, trivial⟩ hr
noncomputable def f222_4 (x0 : Nat) (x1 : Int64) (x3 : Int32) (s : xS) : Option ((Int64 × Int32 × xS) ⊕ (xS × Int64)) := (f197 x0 s).bind fun z1 => if z1.2 ≤ x3 then (Option.map Sum.inr (some (z1.1, x1))) else ((hk_R x0 39).bind fun a4 => (aI z1.1 a4 x3).bind fun v6 => if v6 < 0 then (f222_31 x0 x3 (0 : Int64) x1 z1.1) else ((f213 x0 x3 z1.1).bind fun z9 => f222_31 x0 x3 z9.2 x1 z9.1))
set_option maxRecDepth 20000 in
theorem s222_4 {sc : Option (Nat × (Nat → Int32))} {x0 : Nat} {x1 : Int64} {x3 : Int32} {s : xS} {o : xH × Option Value} {r : ((Int64 × Int32 × xS) ⊕ (xS × Int64))} (k0 : oK x0 12 = true) (h : f222_4 x0 x1 x3 s = some r) (hr : dn222_4 sc x0 o r) : Ev sc 4 222 [] 4 [some (.ref x0), some (.long x1), none, some (.int x3)] [] (hk_of s) o := by
  unfold f222_4 at h
  refine E_blk rfl ?_
  refine E_ps 2 (pc' := 6) (l' := [some (.ref x0), some (.long x1), none, some (.int x3)]) (st' := [.ref x0, .int x3]) rfl ?_
  obtain ⟨z1, e2, h⟩ := Option.bind_eq_some_iff.mp h
  refine E_callI (vs := [.ref x0]) (rest := [.int x3]) rfl (by decide) rfl rfl (Nat.le_of_ble_eq_true rfl) (s197 e2) (by decide) ?_
  by_cases c3 : z1.2 ≤ x3
  · rw [if_pos c3] at h
    refine E_jt rfl rfl c3 ?_
    obtain ⟨r, h, hr⟩ := lf_some (Dn := dn222_4 sc x0 o) h hr
    refine E_blk rfl ?_
    refine E_ps 1 (pc' := 40) (l' := [some (.ref x0), some (.long x1), none, some (.int x3)]) (st' := [.long x1]) rfl ?_
    cases h
    exact E_ret rfl (pg_mt_md (by decide)) rfl hr
  · rw [if_neg c3] at h
    refine E_jf rfl rfl c3 ?_
    refine E_blk rfl ?_
    refine E_ps 2 (pc' := 14) (l' := [some (.ref x0), some (.long x1), none, some (.int x3)]) (st' := [.ref x0, .long x1]) rfl ?_
    obtain ⟨a4, e5, h⟩ := Option.bind_eq_some_iff.mp h
    refine E_gr k0 (by decide) rfl e5 ?_
    refine E_ps 1 (pc' := 18) (l' := [some (.ref x0), some (.long x1), none, some (.int x3)]) (st' := [.int x3, .ref a4, .long x1]) rfl ?_
    obtain ⟨v6, e7, h⟩ := Option.bind_eq_some_iff.mp h
    refine E_ai e7 ?_
    by_cases c8 : v6 < 0
    · rw [if_pos c8] at h
      refine E_jt rfl rfl c8 ?_
      refine E_blk rfl ?_
      refine E_ps 1 (pc' := 31) (l' := [some (.ref x0), some (.long x1), none, some (.int x3)]) (st' := [.long (0 : Int64), .long x1]) rfl ?_
      exact E_wk (l' := [some (.ref x0), none, none, some (.int x3)]) ⟨rfl, rfl, trivial⟩ (s222_31 k0 h hr)
    · rw [if_neg c8] at h
      refine E_jf rfl rfl c8 ?_
      refine E_blk rfl ?_
      refine E_ps 2 (pc' := 24) (l' := [some (.ref x0), some (.long x1), none, some (.int x3)]) (st' := [.int x3, .ref x0, .long x1]) rfl ?_
      obtain ⟨z9, e10, h⟩ := Option.bind_eq_some_iff.mp h
      refine E_callL (vs := [.ref x0, .int x3]) (rest := [.long x1]) rfl (by decide) rfl rfl (Nat.le_of_ble_eq_true rfl) (s213 e10) (by decide) ?_
      refine E_j rfl rfl ?_
      exact E_wk (l' := [some (.ref x0), none, none, some (.int x3)]) ⟨rfl, rfl, trivial⟩ (s222_31 k0 h hr)
theorem s222_4_w {sc : Option (Nat × (Nat → Int32))} {x0 : Nat} {x1 : Int64} {x3 : Int32} {s : xS} {o : xH × Option Value} {r : (xS × Int64)} (k0 : oK x0 12 = true) (h : whl (fun q : (Int64 × Int32 × xS) => f222_4 x0 q.1 q.2.1 q.2.2) (x1, x3, s) = some r) (hr : dn222 o r) : Ev sc 4 222 [] 4 [some (.ref x0), some (.long x1), none, some (.int x3)] [] (hk_of s) o := by
  refine whl_snd (E := fun q : (Int64 × Int32 × xS) => Ev sc 4 222 [] 4 [some (.ref x0), some (.long q.1), none, some (.int q.2.1)] [] (hk_of q.2.2) o) (P := fun r => dn222 o r) (fun q r h hr => ?_) h hr
  exact s222_4 k0 h (by cases r <;> exact hr)
noncomputable def f222 (x0 : Nat) (s : xS) : Option (xS × Int64) := ifg (oK x0 12 = true) <| whl (fun q : (Int64 × Int32 × xS) => f222_4 x0 q.1 q.2.1 q.2.2) ((0 : Int64), (0 : Int32), s)
set_option maxRecDepth 20000 in
theorem s222 {sc : Option (Nat × (Nat → Int32))} {x0 : Nat} {s : xS} {r : xS × Int64} (h : f222 x0 s = some r) : Cl sc 4 222 [.ref x0] (hk_of s) (hk_of r.1, some (.long r.2)) := by
  unfold f222 at h
  obtain ⟨k0, h⟩ := ifg_some h
  refine ⟨pg_md 222, [some (.ref x0), none, none, none], pg_mt_md (by decide), (hk_rcv k0), rfl, ?_⟩
  generalize ho : ((hk_of r.1, some (Value.long r.2)) : xH × Option Value) = o
  have hr : dn222 o r := ho.symm
  refine E_blk rfl ?_
  refine E_ps 4 (pc' := 4) (l' := [some (.ref x0), some (.long (0 : Int64)), none, some (.int (0 : Int32))]) (st' := []) rfl ?_
  exact E_wk (l' := [some (.ref x0), some (.long (0 : Int64)), none, some (.int (0 : Int32))]) ⟨rfl, rfl, rfl, trivial⟩ (s222_4_w k0 h hr)

-- 223: ThreePlatesModel.gapMost()J
def dn223 (o : xH × Option Value) (r : xS × Int64) : Prop := o = (hk_of r.1, some (.long r.2))
def dn223_4 (sc : Option (Nat × (Nat → Int32))) (x0 : Nat) (o : xH × Option Value) (r : ((Int64 × Int32 × xS) ⊕ (xS × Int64))) : Prop := match r with
  | .inl q => Ev sc 4 223 [] 4 [some (.ref x0), some (.long q.1), none, some (.int q.2.1)] [] (hk_of q.2.2) o
  | .inr r => dn223 o r
noncomputable def f223_37 (x0 : Nat) (x1 : Int64) (x3 : Int32) (s : xS) : Option ((Int64 × Int32 × xS) ⊕ (xS × Int64)) := some (Sum.inl (x1, (x3 + (1 : Int32)), s))
set_option maxRecDepth 20000 in
theorem s223_37 {sc : Option (Nat × (Nat → Int32))} {x0 : Nat} {x1 : Int64} {x3 : Int32} {s : xS} {o : xH × Option Value} {r : ((Int64 × Int32 × xS) ⊕ (xS × Int64))} (k0 : oK x0 12 = true) (h : f223_37 x0 x1 x3 s = some r) (hr : dn223_4 sc x0 o r) : Ev sc 4 223 [] 37 [some (.ref x0), some (.long x1), none, some (.int x3)] [] (hk_of s) o := by
  unfold f223_37 at h
  refine E_blk rfl ?_
  refine E_ps 1 (pc' := 40) (l' := [some (.ref x0), some (.long x1), none, some (.int (x3 + (1 : Int32)))]) (st' := []) rfl ?_
  refine E_j rfl rfl ?_
  cases h
  exact E_wk (l' := [some (.ref x0), some (.long x1), none, some (.int (x3 + (1 : Int32)))]) ⟨rfl, rfl, rfl, trivial⟩ hr
noncomputable def f223_4 (x0 : Nat) (x1 : Int64) (x3 : Int32) (s : xS) : Option ((Int64 × Int32 × xS) ⊕ (xS × Int64)) := (f197 x0 s).bind fun z1 => if z1.2 ≤ x3 then (Option.map Sum.inr (some (z1.1, x1))) else ((hk_R x0 39).bind fun a4 => (aI z1.1 a4 x3).bind fun v6 => if v6 < 0 then (f223_37 x0 x1 x3 z1.1) else ((f213 x0 x3 z1.1).bind fun z9 => if (lg_cmp z9.2 x1) ≤ 0 then (f223_37 x0 x1 x3 z9.1) else ((f213 x0 x3 z9.1).bind fun z12 => f223_37 x0 z12.2 x3 z12.1)))
set_option maxRecDepth 20000 in
theorem s223_4 {sc : Option (Nat × (Nat → Int32))} {x0 : Nat} {x1 : Int64} {x3 : Int32} {s : xS} {o : xH × Option Value} {r : ((Int64 × Int32 × xS) ⊕ (xS × Int64))} (k0 : oK x0 12 = true) (h : f223_4 x0 x1 x3 s = some r) (hr : dn223_4 sc x0 o r) : Ev sc 4 223 [] 4 [some (.ref x0), some (.long x1), none, some (.int x3)] [] (hk_of s) o := by
  unfold f223_4 at h
  refine E_blk rfl ?_
  refine E_ps 2 (pc' := 6) (l' := [some (.ref x0), some (.long x1), none, some (.int x3)]) (st' := [.ref x0, .int x3]) rfl ?_
  obtain ⟨z1, e2, h⟩ := Option.bind_eq_some_iff.mp h
  refine E_callI (vs := [.ref x0]) (rest := [.int x3]) rfl (by decide) rfl rfl (Nat.le_of_ble_eq_true rfl) (s197 e2) (by decide) ?_
  by_cases c3 : z1.2 ≤ x3
  · rw [if_pos c3] at h
    refine E_jt rfl rfl c3 ?_
    obtain ⟨r, h, hr⟩ := lf_some (Dn := dn223_4 sc x0 o) h hr
    refine E_blk rfl ?_
    refine E_ps 1 (pc' := 44) (l' := [some (.ref x0), some (.long x1), none, some (.int x3)]) (st' := [.long x1]) rfl ?_
    cases h
    exact E_ret rfl (pg_mt_md (by decide)) rfl hr
  · rw [if_neg c3] at h
    refine E_jf rfl rfl c3 ?_
    refine E_blk rfl ?_
    refine E_ps 1 (pc' := 13) (l' := [some (.ref x0), some (.long x1), none, some (.int x3)]) (st' := [.ref x0]) rfl ?_
    obtain ⟨a4, e5, h⟩ := Option.bind_eq_some_iff.mp h
    refine E_gr k0 (by decide) rfl e5 ?_
    refine E_ps 1 (pc' := 17) (l' := [some (.ref x0), some (.long x1), none, some (.int x3)]) (st' := [.int x3, .ref a4]) rfl ?_
    obtain ⟨v6, e7, h⟩ := Option.bind_eq_some_iff.mp h
    refine E_ai e7 ?_
    by_cases c8 : v6 < 0
    · rw [if_pos c8] at h
      refine E_jt rfl rfl c8 ?_
      exact E_wk (l' := [some (.ref x0), some (.long x1), none, some (.int x3)]) ⟨rfl, rfl, rfl, trivial⟩ (s223_37 k0 h hr)
    · rw [if_neg c8] at h
      refine E_jf rfl rfl c8 ?_
      refine E_blk rfl ?_
      refine E_ps 2 (pc' := 23) (l' := [some (.ref x0), some (.long x1), none, some (.int x3)]) (st' := [.int x3, .ref x0]) rfl ?_
      obtain ⟨z9, e10, h⟩ := Option.bind_eq_some_iff.mp h
      refine E_callL (vs := [.ref x0, .int x3]) (rest := []) rfl (by decide) rfl rfl (Nat.le_of_ble_eq_true rfl) (s213 e10) (by decide) ?_
      refine E_ps 2 (pc' := 28) (l' := [some (.ref x0), some (.long x1), none, some (.int x3)]) (st' := [.int (lg_cmp z9.2 x1)]) rfl ?_
      by_cases c11 : (lg_cmp z9.2 x1) ≤ 0
      · rw [if_pos c11] at h
        refine E_jt rfl rfl c11 ?_
        exact E_wk (l' := [some (.ref x0), some (.long x1), none, some (.int x3)]) ⟨rfl, rfl, rfl, trivial⟩ (s223_37 k0 h hr)
      · rw [if_neg c11] at h
        refine E_jf rfl rfl c11 ?_
        refine E_blk rfl ?_
        refine E_ps 2 (pc' := 33) (l' := [some (.ref x0), some (.long x1), none, some (.int x3)]) (st' := [.int x3, .ref x0]) rfl ?_
        obtain ⟨z12, e13, h⟩ := Option.bind_eq_some_iff.mp h
        refine E_callL (vs := [.ref x0, .int x3]) (rest := []) rfl (by decide) rfl rfl (Nat.le_of_ble_eq_true rfl) (s213 e13) (by decide) ?_
        refine E_ps 1 (pc' := 37) (l' := [some (.ref x0), some (.long z12.2), none, some (.int x3)]) (st' := []) rfl ?_
        exact E_wk (l' := [some (.ref x0), some (.long z12.2), none, some (.int x3)]) ⟨rfl, rfl, rfl, trivial⟩ (s223_37 k0 h hr)
theorem s223_4_w {sc : Option (Nat × (Nat → Int32))} {x0 : Nat} {x1 : Int64} {x3 : Int32} {s : xS} {o : xH × Option Value} {r : (xS × Int64)} (k0 : oK x0 12 = true) (h : whl (fun q : (Int64 × Int32 × xS) => f223_4 x0 q.1 q.2.1 q.2.2) (x1, x3, s) = some r) (hr : dn223 o r) : Ev sc 4 223 [] 4 [some (.ref x0), some (.long x1), none, some (.int x3)] [] (hk_of s) o := by
  refine whl_snd (E := fun q : (Int64 × Int32 × xS) => Ev sc 4 223 [] 4 [some (.ref x0), some (.long q.1), none, some (.int q.2.1)] [] (hk_of q.2.2) o) (P := fun r => dn223 o r) (fun q r h hr => ?_) h hr
  exact s223_4 k0 h (by cases r <;> exact hr)
noncomputable def f223 (x0 : Nat) (s : xS) : Option (xS × Int64) := ifg (oK x0 12 = true) <| whl (fun q : (Int64 × Int32 × xS) => f223_4 x0 q.1 q.2.1 q.2.2) ((0 : Int64), (0 : Int32), s)
set_option maxRecDepth 20000 in
theorem s223 {sc : Option (Nat × (Nat → Int32))} {x0 : Nat} {s : xS} {r : xS × Int64} (h : f223 x0 s = some r) : Cl sc 4 223 [.ref x0] (hk_of s) (hk_of r.1, some (.long r.2)) := by
  unfold f223 at h
  obtain ⟨k0, h⟩ := ifg_some h
  refine ⟨pg_md 223, [some (.ref x0), none, none, none], pg_mt_md (by decide), (hk_rcv k0), rfl, ?_⟩
  generalize ho : ((hk_of r.1, some (Value.long r.2)) : xH × Option Value) = o
  have hr : dn223 o r := ho.symm
  refine E_blk rfl ?_
  refine E_ps 4 (pc' := 4) (l' := [some (.ref x0), some (.long (0 : Int64)), none, some (.int (0 : Int32))]) (st' := []) rfl ?_
  exact E_wk (l' := [some (.ref x0), some (.long (0 : Int64)), none, some (.int (0 : Int32))]) ⟨rfl, rfl, rfl, trivial⟩ (s223_4_w k0 h hr)

-- 224: ThreePlatesModel.air(IIIIII)J
def dn224 (o : xH × Option Value) (r : xS × Int64) : Prop := o = (hk_of r.1, some (.long r.2))
noncomputable def f224_22  (s : xS) : Option (xS × Int64) := some (s, (-1 : Int64))
set_option maxRecDepth 20000 in
theorem s224_22 {sc : Option (Nat × (Nat → Int32))}  {s : xS} {o : xH × Option Value} {r : (xS × Int64)}  (h : f224_22  s = some r) (hr : dn224 o r) : Ev sc 6 224 [] 22 [none, none, none, none, none, none, none] [] (hk_of s) o := by
  unfold f224_22 at h
  refine E_blk rfl ?_
  refine E_ps 1 (pc' := 25) (l' := [none, none, none, none, none, none, none]) (st' := [.long (-1 : Int64)]) rfl ?_
  cases h
  exact E_ret rfl (pg_mt_md (by decide)) rfl hr
noncomputable def f224 (x0 : Nat) (x1 : Int32) (x2 : Int32) (x3 : Int32) (x4 : Int32) (x5 : Int32) (x6 : Int32) (s : xS) : Option (xS × Int64) := ifg (oK x0 12 = true) <| (f218 x0 x1 x2 x3 x4 x5 s).bind fun z1 => if z1.2 = 0 then (f224_22  z1.1) else ((f217 x6 z1.1).bind fun z4 => if z4.2 = 0 then (f224_22  z4.1) else ((f219 x0 x1 x2 x3 x4 x5 z4.1).bind fun z7 => (f222 x0 z7.1).bind fun z9 => (f216 z9.2 (z9.1.2 x0 45) x6 z9.1).bind fun z11 => some (z11.1, z11.2)))
set_option maxRecDepth 20000 in
theorem s224 {sc : Option (Nat × (Nat → Int32))} {x0 : Nat} {x1 : Int32} {x2 : Int32} {x3 : Int32} {x4 : Int32} {x5 : Int32} {x6 : Int32} {s : xS} {r : xS × Int64} (h : f224 x0 x1 x2 x3 x4 x5 x6 s = some r) : Cl sc 6 224 [.ref x0, .int x1, .int x2, .int x3, .int x4, .int x5, .int x6] (hk_of s) (hk_of r.1, some (.long r.2)) := by
  unfold f224 at h
  obtain ⟨k0, h⟩ := ifg_some h
  refine ⟨pg_md 224, [some (.ref x0), some (.int x1), some (.int x2), some (.int x3), some (.int x4), some (.int x5), some (.int x6)], pg_mt_md (by decide), (hk_rcv k0), rfl, ?_⟩
  generalize ho : ((hk_of r.1, some (Value.long r.2)) : xH × Option Value) = o
  have hr : dn224 o r := ho.symm
  refine E_blk rfl ?_
  refine E_ps 6 (pc' := 8) (l' := [some (.ref x0), some (.int x1), some (.int x2), some (.int x3), some (.int x4), some (.int x5), some (.int x6)]) (st' := [.int x5, .int x4, .int x3, .int x2, .int x1, .ref x0]) rfl ?_
  obtain ⟨z1, e2, h⟩ := Option.bind_eq_some_iff.mp h
  refine E_callI (vs := [.ref x0, .int x1, .int x2, .int x3, .int x4, .int x5]) (rest := []) rfl (by decide) rfl rfl (Nat.le_of_ble_eq_true rfl) (s218 e2) (by decide) ?_
  by_cases c3 : z1.2 = 0
  · rw [if_pos c3] at h
    refine E_jt rfl rfl c3 ?_
    exact E_wk (l' := [none, none, none, none, none, none, none]) trivial (s224_22  h hr)
  · rw [if_neg c3] at h
    refine E_jf rfl rfl c3 ?_
    refine E_blk rfl ?_
    refine E_ps 1 (pc' := 16) (l' := [some (.ref x0), some (.int x1), some (.int x2), some (.int x3), some (.int x4), some (.int x5), some (.int x6)]) (st' := [.int x6]) rfl ?_
    obtain ⟨z4, e5, h⟩ := Option.bind_eq_some_iff.mp h
    refine E_callI (vs := [.int x6]) (rest := []) rfl (by decide) rfl rfl (Nat.le_of_ble_eq_true rfl) (s217 e5) (by decide) ?_
    by_cases c6 : z4.2 = 0
    · rw [if_pos c6] at h
      refine E_jt rfl rfl c6 ?_
      exact E_wk (l' := [none, none, none, none, none, none, none]) trivial (s224_22  h hr)
    · rw [if_neg c6] at h
      refine E_jf rfl rfl c6 ?_
      refine E_blk rfl ?_
      refine E_ps 6 (pc' := 34) (l' := [some (.ref x0), some (.int x1), some (.int x2), some (.int x3), some (.int x4), some (.int x5), some (.int x6)]) (st' := [.int x5, .int x4, .int x3, .int x2, .int x1, .ref x0]) rfl ?_
      obtain ⟨z7, e8, h⟩ := Option.bind_eq_some_iff.mp h
      refine E_callV (vs := [.ref x0, .int x1, .int x2, .int x3, .int x4, .int x5]) (rest := []) rfl (by decide) rfl rfl (Nat.le_of_ble_eq_true rfl) (s219 e8) (by decide) ?_
      refine E_ps 1 (pc' := 38) (l' := [some (.ref x0), some (.int x1), some (.int x2), some (.int x3), some (.int x4), some (.int x5), some (.int x6)]) (st' := [.ref x0]) rfl ?_
      obtain ⟨z9, e10, h⟩ := Option.bind_eq_some_iff.mp h
      refine E_callL (vs := [.ref x0]) (rest := []) rfl (by decide) rfl rfl (Nat.le_of_ble_eq_true rfl) (s222 e10) (by decide) ?_
      refine E_ps 1 (pc' := 42) (l' := [some (.ref x0), some (.int x1), some (.int x2), some (.int x3), some (.int x4), some (.int x5), some (.int x6)]) (st' := [.ref x0, .long z9.2]) rfl ?_
      refine E_gl k0 (by decide) rfl ?_
      refine E_ps 1 (pc' := 47) (l' := [some (.ref x0), some (.int x1), some (.int x2), some (.int x3), some (.int x4), some (.int x5), some (.int x6)]) (st' := [.int x6, .long (z9.1.2 x0 45), .long z9.2]) rfl ?_
      obtain ⟨z11, e12, h⟩ := Option.bind_eq_some_iff.mp h
      refine E_callL (vs := [.long z9.2, .long (z9.1.2 x0 45), .int x6]) (rest := []) rfl (by decide) rfl rfl (Nat.le_of_ble_eq_true rfl) (s216 e12) (by decide) ?_
      cases h
      exact E_ret rfl (pg_mt_md (by decide)) rfl hr

-- 225: ThreePlatesModel.lift(IIIIII)I
def dn225 (o : xH × Option Value) (r : xS × Int32) : Prop := o = (hk_of r.1, some (.int r.2))
noncomputable def f225_26  (s : xS) : Option (xS × Int32) := some (s, (-1 : Int32))
set_option maxRecDepth 20000 in
theorem s225_26 {sc : Option (Nat × (Nat → Int32))}  {s : xS} {o : xH × Option Value} {r : (xS × Int32)}  (h : f225_26  s = some r) (hr : dn225 o r) : Ev sc 6 225 [] 26 [none, none, none, none, none, none, none] [] (hk_of s) o := by
  unfold f225_26 at h
  refine E_blk rfl ?_
  refine E_ps 1 (pc' := 27) (l' := [none, none, none, none, none, none, none]) (st' := [.int (-1 : Int32)]) rfl ?_
  cases h
  exact E_ret rfl (pg_mt_md (by decide)) rfl hr
noncomputable def f225_60 (y0 : Int32) (s : xS) : Option (xS × Int32) := some (s, y0)
set_option maxRecDepth 20000 in
theorem s225_60 {sc : Option (Nat × (Nat → Int32))} {y0 : Int32} {s : xS} {o : xH × Option Value} {r : (xS × Int32)}  (h : f225_60 y0 s = some r) (hr : dn225 o r) : Ev sc 6 225 [] 60 [none, none, none, none, none, none, none] [.int y0] (hk_of s) o := by
  unfold f225_60 at h
  refine E_blk rfl ?_
  cases h
  exact E_ret rfl (pg_mt_md (by decide)) rfl hr
noncomputable def f225 (x0 : Nat) (x1 : Int32) (x2 : Int32) (x3 : Int32) (x4 : Int32) (x5 : Int32) (x6 : Int32) (s : xS) : Option (xS × Int32) := ifg (oK x0 12 = true) <| (f218 x0 x1 x2 x3 x4 x5 s).bind fun z1 => if z1.2 = 0 then (f225_26  z1.1) else ((f195 x6 (0 : Int32) (999 : Int32) z1.1).bind fun z4 => if z4.2 = 0 then (f225_26  z4.1) else ((f219 x0 x1 x2 x3 x4 x5 z4.1).bind fun z7 => (f223 x0 z7.1).bind fun z9 => if 0 < (lg_cmp z9.2 ((z9.1.2 x0 45) * x6.toInt64)) then (f225_60 (0 : Int32) z9.1) else (f225_60 (1 : Int32) z9.1)))
set_option maxRecDepth 20000 in
theorem s225 {sc : Option (Nat × (Nat → Int32))} {x0 : Nat} {x1 : Int32} {x2 : Int32} {x3 : Int32} {x4 : Int32} {x5 : Int32} {x6 : Int32} {s : xS} {r : xS × Int32} (h : f225 x0 x1 x2 x3 x4 x5 x6 s = some r) : Cl sc 6 225 [.ref x0, .int x1, .int x2, .int x3, .int x4, .int x5, .int x6] (hk_of s) (hk_of r.1, some (.int r.2)) := by
  unfold f225 at h
  obtain ⟨k0, h⟩ := ifg_some h
  refine ⟨pg_md 225, [some (.ref x0), some (.int x1), some (.int x2), some (.int x3), some (.int x4), some (.int x5), some (.int x6)], pg_mt_md (by decide), (hk_rcv k0), rfl, ?_⟩
  generalize ho : ((hk_of r.1, some (Value.int r.2)) : xH × Option Value) = o
  have hr : dn225 o r := ho.symm
  refine E_blk rfl ?_
  refine E_ps 6 (pc' := 8) (l' := [some (.ref x0), some (.int x1), some (.int x2), some (.int x3), some (.int x4), some (.int x5), some (.int x6)]) (st' := [.int x5, .int x4, .int x3, .int x2, .int x1, .ref x0]) rfl ?_
  obtain ⟨z1, e2, h⟩ := Option.bind_eq_some_iff.mp h
  refine E_callI (vs := [.ref x0, .int x1, .int x2, .int x3, .int x4, .int x5]) (rest := []) rfl (by decide) rfl rfl (Nat.le_of_ble_eq_true rfl) (s218 e2) (by decide) ?_
  by_cases c3 : z1.2 = 0
  · rw [if_pos c3] at h
    refine E_jt rfl rfl c3 ?_
    exact E_wk (l' := [none, none, none, none, none, none, none]) trivial (s225_26  h hr)
  · rw [if_neg c3] at h
    refine E_jf rfl rfl c3 ?_
    refine E_blk rfl ?_
    refine E_ps 3 (pc' := 20) (l' := [some (.ref x0), some (.int x1), some (.int x2), some (.int x3), some (.int x4), some (.int x5), some (.int x6)]) (st' := [.int (999 : Int32), .int (0 : Int32), .int x6]) rfl ?_
    obtain ⟨z4, e5, h⟩ := Option.bind_eq_some_iff.mp h
    refine E_callI (vs := [.int x6, .int (0 : Int32), .int (999 : Int32)]) (rest := []) rfl (by decide) rfl rfl (Nat.le_of_ble_eq_true rfl) (s195 e5) (by decide) ?_
    by_cases c6 : z4.2 = 0
    · rw [if_pos c6] at h
      refine E_jt rfl rfl c6 ?_
      exact E_wk (l' := [none, none, none, none, none, none, none]) trivial (s225_26  h hr)
    · rw [if_neg c6] at h
      refine E_jf rfl rfl c6 ?_
      refine E_blk rfl ?_
      refine E_ps 6 (pc' := 36) (l' := [some (.ref x0), some (.int x1), some (.int x2), some (.int x3), some (.int x4), some (.int x5), some (.int x6)]) (st' := [.int x5, .int x4, .int x3, .int x2, .int x1, .ref x0]) rfl ?_
      obtain ⟨z7, e8, h⟩ := Option.bind_eq_some_iff.mp h
      refine E_callV (vs := [.ref x0, .int x1, .int x2, .int x3, .int x4, .int x5]) (rest := []) rfl (by decide) rfl rfl (Nat.le_of_ble_eq_true rfl) (s219 e8) (by decide) ?_
      refine E_ps 1 (pc' := 40) (l' := [some (.ref x0), some (.int x1), some (.int x2), some (.int x3), some (.int x4), some (.int x5), some (.int x6)]) (st' := [.ref x0]) rfl ?_
      obtain ⟨z9, e10, h⟩ := Option.bind_eq_some_iff.mp h
      refine E_callL (vs := [.ref x0]) (rest := []) rfl (by decide) rfl rfl (Nat.le_of_ble_eq_true rfl) (s223 e10) (by decide) ?_
      refine E_ps 1 (pc' := 44) (l' := [some (.ref x0), some (.int x1), some (.int x2), some (.int x3), some (.int x4), some (.int x5), some (.int x6)]) (st' := [.ref x0, .long z9.2]) rfl ?_
      refine E_gl k0 (by decide) rfl ?_
      refine E_ps 4 (pc' := 52) (l' := [some (.ref x0), some (.int x1), some (.int x2), some (.int x3), some (.int x4), some (.int x5), some (.int x6)]) (st' := [.int (lg_cmp z9.2 ((z9.1.2 x0 45) * x6.toInt64))]) rfl ?_
      by_cases c11 : 0 < (lg_cmp z9.2 ((z9.1.2 x0 45) * x6.toInt64))
      · rw [if_pos c11] at h
        refine E_jt rfl rfl c11 ?_
        refine E_blk rfl ?_
        refine E_ps 1 (pc' := 60) (l' := [some (.ref x0), some (.int x1), some (.int x2), some (.int x3), some (.int x4), some (.int x5), some (.int x6)]) (st' := [.int (0 : Int32)]) rfl ?_
        exact E_wk (l' := [none, none, none, none, none, none, none]) trivial (s225_60  h hr)
      · rw [if_neg c11] at h
        refine E_jf rfl rfl c11 ?_
        refine E_blk rfl ?_
        refine E_ps 1 (pc' := 56) (l' := [some (.ref x0), some (.int x1), some (.int x2), some (.int x3), some (.int x4), some (.int x5), some (.int x6)]) (st' := [.int (1 : Int32)]) rfl ?_
        refine E_j rfl rfl ?_
        exact E_wk (l' := [none, none, none, none, none, none, none]) trivial (s225_60  h hr)

-- 226: ThreePlatesModel.draw(I)I
def dn226 (o : xH × Option Value) (r : xS × Int32) : Prop := o = (hk_of r.1, some (.int r.2))
noncomputable def f226 (x0 : Nat) (x1 : Int32) (s : xS) : Option (xS × Int32) := ifg (oK x0 12 = true) <| (pI s x0 29 (((s.1 x0 29) * (1103515245 : Int32)) + (12345 : Int32))).bind fun t1 => ifg (¬ x1 = 0) <| some (t1, (irm (xm_ush (t1.1 x0 29) (16 : Int32)) x1))
set_option maxRecDepth 20000 in
theorem s226 {sc : Option (Nat × (Nat → Int32))} {x0 : Nat} {x1 : Int32} {s : xS} {r : xS × Int32} (h : f226 x0 x1 s = some r) : Cl sc 1 226 [.ref x0, .int x1] (hk_of s) (hk_of r.1, some (.int r.2)) := by
  unfold f226 at h
  obtain ⟨k0, h⟩ := ifg_some h
  refine ⟨pg_md 226, [some (.ref x0), some (.int x1)], pg_mt_md (by decide), (hk_rcv k0), rfl, ?_⟩
  generalize ho : ((hk_of r.1, some (Value.int r.2)) : xH × Option Value) = o
  have hr : dn226 o r := ho.symm
  refine E_blk rfl ?_
  refine E_ps 2 (pc' := 2) (l' := [some (.ref x0), some (.int x1)]) (st' := [.ref x0, .ref x0]) rfl ?_
  refine E_gi k0 (by decide) rfl ?_
  refine E_ps 4 (pc' := 13) (l' := [some (.ref x0), some (.int x1)]) (st' := [.int (((s.1 x0 29) * (1103515245 : Int32)) + (12345 : Int32)), .ref x0]) rfl ?_
  obtain ⟨t1, e2, h⟩ := Option.bind_eq_some_iff.mp h
  refine E_pi k0 (by decide) rfl e2 ?_
  refine E_ps 1 (pc' := 17) (l' := [some (.ref x0), some (.int x1)]) (st' := [.ref x0]) rfl ?_
  refine E_gi k0 (by decide) rfl ?_
  refine E_ps 3 (pc' := 24) (l' := [some (.ref x0), some (.int x1)]) (st' := [.int x1, .int (xm_ush (t1.1 x0 29) (16 : Int32))]) rfl ?_
  obtain ⟨g3, h⟩ := ifg_some h
  refine E_irem g3 ?_
  cases h
  exact E_ret rfl (pg_mt_md (by decide)) rfl hr

-- 227: ThreePlatesModel.findRed(I)V
def dn227 (o : xH × Option Value) (r : xS × Unit) : Prop := o = (hk_of r.1, none)
def dn227_57 (sc : Option (Nat × (Nat → Int32))) (x0 : Nat) (x2 : Int32) (o : xH × Option Value) (r : ((Int32 × xS) ⊕ (xS × Unit))) : Prop := match r with
  | .inl q => Ev sc 6 227 [] 57 [some (.ref x0), none, some (.int x2), some (.int q.1)] [] (hk_of q.2) o
  | .inr r => dn227 o r
def dn227_78 (sc : Option (Nat × (Nat → Int32))) (x0 : Nat) (x2 : Int32) (o : xH × Option Value) (r : ((Int32 × xS) ⊕ (xS × Unit))) : Prop := match r with
  | .inl q => Ev sc 6 227 [] 78 [some (.ref x0), none, some (.int x2), some (.int q.1)] [] (hk_of q.2) o
  | .inr r => dn227 o r
noncomputable def f227_114 (x0 : Nat) (x2 : Int32) (x3 : Int32) (s : xS) : Option ((Int32 × xS) ⊕ (xS × Unit)) := some (Sum.inl ((x3 + (1 : Int32)), s))
set_option maxRecDepth 20000 in
theorem s227_114 {sc : Option (Nat × (Nat → Int32))} {x0 : Nat} {x2 : Int32} {x3 : Int32} {s : xS} {o : xH × Option Value} {r : ((Int32 × xS) ⊕ (xS × Unit))} (k0 : oK x0 12 = true) (h : f227_114 x0 x2 x3 s = some r) (hr : dn227_78 sc x0 x2 o r) : Ev sc 6 227 [] 114 [some (.ref x0), none, some (.int x2), some (.int x3)] [] (hk_of s) o := by
  unfold f227_114 at h
  refine E_blk rfl ?_
  refine E_ps 1 (pc' := 117) (l' := [some (.ref x0), none, some (.int x2), some (.int (x3 + (1 : Int32)))]) (st' := []) rfl ?_
  refine E_j rfl rfl ?_
  cases h
  exact E_wk (l' := [some (.ref x0), none, some (.int x2), some (.int (x3 + (1 : Int32)))]) ⟨rfl, rfl, rfl, trivial⟩ hr
noncomputable def f227_112 (x0 : Nat) (x2 : Int32) (x3 : Int32) (y0 : Int32) (y1 : Nat) (s : xS) : Option ((Int32 × xS) ⊕ (xS × Unit)) := (wB s y1 y0 (1 : Int32)).bind fun t1 => f227_114 x0 x2 x3 t1
set_option maxRecDepth 20000 in
theorem s227_112 {sc : Option (Nat × (Nat → Int32))} {x0 : Nat} {x2 : Int32} {x3 : Int32} {y0 : Int32} {y1 : Nat} {s : xS} {o : xH × Option Value} {r : ((Int32 × xS) ⊕ (xS × Unit))} (k0 : oK x0 12 = true) (h : f227_112 x0 x2 x3 y0 y1 s = some r) (hr : dn227_78 sc x0 x2 o r) : Ev sc 6 227 [] 112 [some (.ref x0), none, some (.int x2), some (.int x3)] [.int y0, .ref y1] (hk_of s) o := by
  unfold f227_112 at h
  refine E_blk rfl ?_
  refine E_ps 1 (pc' := 113) (l' := [some (.ref x0), none, some (.int x2), some (.int x3)]) (st' := [.int (1 : Int32), .int y0, .ref y1]) rfl ?_
  obtain ⟨t1, e2, h⟩ := Option.bind_eq_some_iff.mp h
  refine E_wb e2 ?_
  exact E_wk (l' := [some (.ref x0), none, some (.int x2), some (.int x3)]) ⟨rfl, rfl, rfl, trivial⟩ (s227_114 k0 h hr)
noncomputable def f227_78 (x0 : Nat) (x2 : Int32) (x3 : Int32) (s : xS) : Option ((Int32 × xS) ⊕ (xS × Unit)) := (f197 x0 s).bind fun z1 => if z1.2 ≤ x3 then (Option.map Sum.inr (some (z1.1, ()))) else ((f214 x0 x3 z1.1).bind fun z4 => if z4.2 = 0 then (f227_114 x0 x2 x3 z4.1) else ((hk_R x0 49).bind fun a7 => if x2 = 0 then (f227_112 x0 x2 x3 x3 a7 z4.1) else ((hk_R x0 39).bind fun a10 => (aI z4.1 a10 x3).bind fun v12 => f227_112 x0 x2 x3 v12 a7 z4.1)))
set_option maxRecDepth 20000 in
theorem s227_78 {sc : Option (Nat × (Nat → Int32))} {x0 : Nat} {x2 : Int32} {x3 : Int32} {s : xS} {o : xH × Option Value} {r : ((Int32 × xS) ⊕ (xS × Unit))} (k0 : oK x0 12 = true) (h : f227_78 x0 x2 x3 s = some r) (hr : dn227_78 sc x0 x2 o r) : Ev sc 6 227 [] 78 [some (.ref x0), none, some (.int x2), some (.int x3)] [] (hk_of s) o := by
  unfold f227_78 at h
  refine E_blk rfl ?_
  refine E_ps 2 (pc' := 80) (l' := [some (.ref x0), none, some (.int x2), some (.int x3)]) (st' := [.ref x0, .int x3]) rfl ?_
  obtain ⟨z1, e2, h⟩ := Option.bind_eq_some_iff.mp h
  refine E_callI (vs := [.ref x0]) (rest := [.int x3]) rfl (by decide) rfl rfl (Nat.le_of_ble_eq_true rfl) (s197 e2) (by decide) ?_
  by_cases c3 : z1.2 ≤ x3
  · rw [if_pos c3] at h
    refine E_jt rfl rfl c3 ?_
    obtain ⟨r, h, hr⟩ := lf_some (Dn := dn227_78 sc x0 x2 o) h hr
    refine E_blk rfl ?_
    cases h
    exact E_ret rfl (pg_mt_md (by decide)) rfl hr
  · rw [if_neg c3] at h
    refine E_jf rfl rfl c3 ?_
    refine E_blk rfl ?_
    refine E_ps 2 (pc' := 88) (l' := [some (.ref x0), none, some (.int x2), some (.int x3)]) (st' := [.int x3, .ref x0]) rfl ?_
    obtain ⟨z4, e5, h⟩ := Option.bind_eq_some_iff.mp h
    refine E_callI (vs := [.ref x0, .int x3]) (rest := []) rfl (by decide) rfl rfl (Nat.le_of_ble_eq_true rfl) (s214 e5) (by decide) ?_
    by_cases c6 : z4.2 = 0
    · rw [if_pos c6] at h
      refine E_jt rfl rfl c6 ?_
      exact E_wk (l' := [some (.ref x0), none, some (.int x2), some (.int x3)]) ⟨rfl, rfl, rfl, trivial⟩ (s227_114 k0 h hr)
    · rw [if_neg c6] at h
      refine E_jf rfl rfl c6 ?_
      refine E_blk rfl ?_
      refine E_ps 1 (pc' := 95) (l' := [some (.ref x0), none, some (.int x2), some (.int x3)]) (st' := [.ref x0]) rfl ?_
      obtain ⟨a7, e8, h⟩ := Option.bind_eq_some_iff.mp h
      refine E_gr k0 (by decide) rfl e8 ?_
      refine E_ps 1 (pc' := 99) (l' := [some (.ref x0), none, some (.int x2), some (.int x3)]) (st' := [.int x2, .ref a7]) rfl ?_
      by_cases c9 : x2 = 0
      · rw [if_pos c9] at h
        refine E_jt rfl rfl c9 ?_
        refine E_blk rfl ?_
        refine E_ps 1 (pc' := 112) (l' := [some (.ref x0), none, some (.int x2), some (.int x3)]) (st' := [.int x3, .ref a7]) rfl ?_
        exact E_wk (l' := [some (.ref x0), none, some (.int x2), some (.int x3)]) ⟨rfl, rfl, rfl, trivial⟩ (s227_112 k0 h hr)
      · rw [if_neg c9] at h
        refine E_jf rfl rfl c9 ?_
        refine E_blk rfl ?_
        refine E_ps 1 (pc' := 103) (l' := [some (.ref x0), none, some (.int x2), some (.int x3)]) (st' := [.ref x0, .ref a7]) rfl ?_
        obtain ⟨a10, e11, h⟩ := Option.bind_eq_some_iff.mp h
        refine E_gr k0 (by decide) rfl e11 ?_
        refine E_ps 1 (pc' := 107) (l' := [some (.ref x0), none, some (.int x2), some (.int x3)]) (st' := [.int x3, .ref a10, .ref a7]) rfl ?_
        obtain ⟨v12, e13, h⟩ := Option.bind_eq_some_iff.mp h
        refine E_ai e13 ?_
        refine E_j rfl rfl ?_
        exact E_wk (l' := [some (.ref x0), none, some (.int x2), some (.int x3)]) ⟨rfl, rfl, rfl, trivial⟩ (s227_112 k0 h hr)
theorem s227_78_w {sc : Option (Nat × (Nat → Int32))} {x0 : Nat} {x2 : Int32} {x3 : Int32} {s : xS} {o : xH × Option Value} {r : (xS × Unit)} (k0 : oK x0 12 = true) (h : whl (fun q : (Int32 × xS) => f227_78 x0 x2 q.1 q.2) (x3, s) = some r) (hr : dn227 o r) : Ev sc 6 227 [] 78 [some (.ref x0), none, some (.int x2), some (.int x3)] [] (hk_of s) o := by
  refine whl_snd (E := fun q : (Int32 × xS) => Ev sc 6 227 [] 78 [some (.ref x0), none, some (.int x2), some (.int q.1)] [] (hk_of q.2) o) (P := fun r => dn227 o r) (fun q r h hr => ?_) h hr
  exact s227_78 k0 h (by cases r <;> exact hr)
noncomputable def f227_57 (x0 : Nat) (x2 : Int32) (x3 : Int32) (s : xS) : Option ((Int32 × xS) ⊕ (xS × Unit)) := if (25 : Int32) ≤ x3 then (Option.map Sum.inr (whl (fun q : (Int32 × xS) => f227_78 x0 x2 q.1 q.2) ((0 : Int32), s))) else ((hk_R x0 49).bind fun a2 => (wB s a2 x3 (0 : Int32)).bind fun t4 => some (Sum.inl ((x3 + (1 : Int32)), t4)))
set_option maxRecDepth 20000 in
theorem s227_57 {sc : Option (Nat × (Nat → Int32))} {x0 : Nat} {x2 : Int32} {x3 : Int32} {s : xS} {o : xH × Option Value} {r : ((Int32 × xS) ⊕ (xS × Unit))} (k0 : oK x0 12 = true) (h : f227_57 x0 x2 x3 s = some r) (hr : dn227_57 sc x0 x2 o r) : Ev sc 6 227 [] 57 [some (.ref x0), none, some (.int x2), some (.int x3)] [] (hk_of s) o := by
  unfold f227_57 at h
  refine E_blk rfl ?_
  refine E_ps 2 (pc' := 60) (l' := [some (.ref x0), none, some (.int x2), some (.int x3)]) (st' := [.int (25 : Int32), .int x3]) rfl ?_
  by_cases c1 : (25 : Int32) ≤ x3
  · rw [if_pos c1] at h
    refine E_jt rfl rfl c1 ?_
    obtain ⟨r, h, hr⟩ := lf_some (Dn := dn227_57 sc x0 x2 o) h hr
    refine E_blk rfl ?_
    refine E_ps 2 (pc' := 78) (l' := [some (.ref x0), none, some (.int x2), some (.int (0 : Int32))]) (st' := []) rfl ?_
    exact E_wk (l' := [some (.ref x0), none, some (.int x2), some (.int (0 : Int32))]) ⟨rfl, rfl, rfl, trivial⟩ (s227_78_w k0 h hr)
  · rw [if_neg c1] at h
    refine E_jf rfl rfl c1 ?_
    refine E_blk rfl ?_
    refine E_ps 1 (pc' := 64) (l' := [some (.ref x0), none, some (.int x2), some (.int x3)]) (st' := [.ref x0]) rfl ?_
    obtain ⟨a2, e3, h⟩ := Option.bind_eq_some_iff.mp h
    refine E_gr k0 (by decide) rfl e3 ?_
    refine E_ps 2 (pc' := 69) (l' := [some (.ref x0), none, some (.int x2), some (.int x3)]) (st' := [.int (0 : Int32), .int x3, .ref a2]) rfl ?_
    obtain ⟨t4, e5, h⟩ := Option.bind_eq_some_iff.mp h
    refine E_wb e5 ?_
    refine E_ps 1 (pc' := 73) (l' := [some (.ref x0), none, some (.int x2), some (.int (x3 + (1 : Int32)))]) (st' := []) rfl ?_
    refine E_j rfl rfl ?_
    cases h
    exact E_wk (l' := [some (.ref x0), none, some (.int x2), some (.int (x3 + (1 : Int32)))]) ⟨rfl, rfl, rfl, trivial⟩ hr
theorem s227_57_w {sc : Option (Nat × (Nat → Int32))} {x0 : Nat} {x2 : Int32} {x3 : Int32} {s : xS} {o : xH × Option Value} {r : (xS × Unit)} (k0 : oK x0 12 = true) (h : whl (fun q : (Int32 × xS) => f227_57 x0 x2 q.1 q.2) (x3, s) = some r) (hr : dn227 o r) : Ev sc 6 227 [] 57 [some (.ref x0), none, some (.int x2), some (.int x3)] [] (hk_of s) o := by
  refine whl_snd (E := fun q : (Int32 × xS) => Ev sc 6 227 [] 57 [some (.ref x0), none, some (.int x2), some (.int q.1)] [] (hk_of q.2) o) (P := fun r => dn227 o r) (fun q r h hr => ?_) h hr
  exact s227_57 k0 h (by cases r <;> exact hr)
noncomputable def f227_54 (x0 : Nat) (y0 : Int32) (s : xS) : Option (xS × Unit) := whl (fun q : (Int32 × xS) => f227_57 x0 y0 q.1 q.2) ((0 : Int32), s)
set_option maxRecDepth 20000 in
theorem s227_54 {sc : Option (Nat × (Nat → Int32))} {x0 : Nat} {y0 : Int32} {s : xS} {o : xH × Option Value} {r : (xS × Unit)} (k0 : oK x0 12 = true) (h : f227_54 x0 y0 s = some r) (hr : dn227 o r) : Ev sc 6 227 [] 54 [some (.ref x0), none, none, none] [.int y0] (hk_of s) o := by
  unfold f227_54 at h
  refine E_blk rfl ?_
  refine E_ps 3 (pc' := 57) (l' := [some (.ref x0), none, some (.int y0), some (.int (0 : Int32))]) (st' := []) rfl ?_
  exact E_wk (l' := [some (.ref x0), none, some (.int y0), some (.int (0 : Int32))]) ⟨rfl, rfl, rfl, trivial⟩ (s227_57_w k0 h hr)
noncomputable def f227 (x0 : Nat) (x1 : Int32) (s : xS) : Option (xS × Unit) := ifg (oK x0 12 = true) <| (hk_R x0 31).bind fun a1 => (aI s a1 x1).bind fun v3 => (hk_R x0 30).bind fun a5 => (aI s a5 x1).bind fun v7 => (hk_R x0 32).bind fun a9 => (aI s a9 x1).bind fun v11 => (hk_R x0 33).bind fun a13 => (aI s a13 x1).bind fun v15 => (hk_R x0 34).bind fun a17 => (aI s a17 x1).bind fun v19 => (f219 x0 v3 v7 v11 v15 v19 s).bind fun z21 => (hk_R x0 35).bind fun a23 => (aI z21.1 a23 x1).bind fun v25 => (hk_R x0 30).bind fun a27 => (aI z21.1 a27 x1).bind fun v29 => if v25 = v29 then (f227_54 x0 (1 : Int32) z21.1) else (f227_54 x0 (0 : Int32) z21.1)
set_option maxRecDepth 20000 in
theorem s227 {sc : Option (Nat × (Nat → Int32))} {x0 : Nat} {x1 : Int32} {s : xS} {r : xS × Unit} (h : f227 x0 x1 s = some r) : Cl sc 6 227 [.ref x0, .int x1] (hk_of s) (hk_of r.1, none) := by
  unfold f227 at h
  obtain ⟨k0, h⟩ := ifg_some h
  refine ⟨pg_md 227, [some (.ref x0), some (.int x1), none, none], pg_mt_md (by decide), (hk_rcv k0), rfl, ?_⟩
  generalize ho : ((hk_of r.1, none) : xH × Option Value) = o
  have hr : dn227 o r := ho.symm
  refine E_blk rfl ?_
  refine E_ps 2 (pc' := 2) (l' := [some (.ref x0), some (.int x1), none, none]) (st' := [.ref x0, .ref x0]) rfl ?_
  obtain ⟨a1, e2, h⟩ := Option.bind_eq_some_iff.mp h
  refine E_gr k0 (by decide) rfl e2 ?_
  refine E_ps 1 (pc' := 6) (l' := [some (.ref x0), some (.int x1), none, none]) (st' := [.int x1, .ref a1, .ref x0]) rfl ?_
  obtain ⟨v3, e4, h⟩ := Option.bind_eq_some_iff.mp h
  refine E_ai e4 ?_
  refine E_ps 1 (pc' := 8) (l' := [some (.ref x0), some (.int x1), none, none]) (st' := [.ref x0, .int v3, .ref x0]) rfl ?_
  obtain ⟨a5, e6, h⟩ := Option.bind_eq_some_iff.mp h
  refine E_gr k0 (by decide) rfl e6 ?_
  refine E_ps 1 (pc' := 12) (l' := [some (.ref x0), some (.int x1), none, none]) (st' := [.int x1, .ref a5, .int v3, .ref x0]) rfl ?_
  obtain ⟨v7, e8, h⟩ := Option.bind_eq_some_iff.mp h
  refine E_ai e8 ?_
  refine E_ps 1 (pc' := 14) (l' := [some (.ref x0), some (.int x1), none, none]) (st' := [.ref x0, .int v7, .int v3, .ref x0]) rfl ?_
  obtain ⟨a9, e10, h⟩ := Option.bind_eq_some_iff.mp h
  refine E_gr k0 (by decide) rfl e10 ?_
  refine E_ps 1 (pc' := 18) (l' := [some (.ref x0), some (.int x1), none, none]) (st' := [.int x1, .ref a9, .int v7, .int v3, .ref x0]) rfl ?_
  obtain ⟨v11, e12, h⟩ := Option.bind_eq_some_iff.mp h
  refine E_ai e12 ?_
  refine E_ps 1 (pc' := 20) (l' := [some (.ref x0), some (.int x1), none, none]) (st' := [.ref x0, .int v11, .int v7, .int v3, .ref x0]) rfl ?_
  obtain ⟨a13, e14, h⟩ := Option.bind_eq_some_iff.mp h
  refine E_gr k0 (by decide) rfl e14 ?_
  refine E_ps 1 (pc' := 24) (l' := [some (.ref x0), some (.int x1), none, none]) (st' := [.int x1, .ref a13, .int v11, .int v7, .int v3, .ref x0]) rfl ?_
  obtain ⟨v15, e16, h⟩ := Option.bind_eq_some_iff.mp h
  refine E_ai e16 ?_
  refine E_ps 1 (pc' := 26) (l' := [some (.ref x0), some (.int x1), none, none]) (st' := [.ref x0, .int v15, .int v11, .int v7, .int v3, .ref x0]) rfl ?_
  obtain ⟨a17, e18, h⟩ := Option.bind_eq_some_iff.mp h
  refine E_gr k0 (by decide) rfl e18 ?_
  refine E_ps 1 (pc' := 30) (l' := [some (.ref x0), some (.int x1), none, none]) (st' := [.int x1, .ref a17, .int v15, .int v11, .int v7, .int v3, .ref x0]) rfl ?_
  obtain ⟨v19, e20, h⟩ := Option.bind_eq_some_iff.mp h
  refine E_ai e20 ?_
  obtain ⟨z21, e22, h⟩ := Option.bind_eq_some_iff.mp h
  refine E_callV (vs := [.ref x0, .int v3, .int v7, .int v11, .int v15, .int v19]) (rest := []) rfl (by decide) rfl rfl (Nat.le_of_ble_eq_true rfl) (s219 e22) (by decide) ?_
  refine E_ps 1 (pc' := 35) (l' := [some (.ref x0), some (.int x1), none, none]) (st' := [.ref x0]) rfl ?_
  obtain ⟨a23, e24, h⟩ := Option.bind_eq_some_iff.mp h
  refine E_gr k0 (by decide) rfl e24 ?_
  refine E_ps 1 (pc' := 39) (l' := [some (.ref x0), some (.int x1), none, none]) (st' := [.int x1, .ref a23]) rfl ?_
  obtain ⟨v25, e26, h⟩ := Option.bind_eq_some_iff.mp h
  refine E_ai e26 ?_
  refine E_ps 1 (pc' := 41) (l' := [some (.ref x0), some (.int x1), none, none]) (st' := [.ref x0, .int v25]) rfl ?_
  obtain ⟨a27, e28, h⟩ := Option.bind_eq_some_iff.mp h
  refine E_gr k0 (by decide) rfl e28 ?_
  refine E_ps 1 (pc' := 45) (l' := [some (.ref x0), some (.int x1), none, none]) (st' := [.int x1, .ref a27, .int v25]) rfl ?_
  obtain ⟨v29, e30, h⟩ := Option.bind_eq_some_iff.mp h
  refine E_ai e30 ?_
  by_cases c31 : v25 = v29
  · rw [if_pos c31] at h
    refine E_jt rfl rfl c31 ?_
    refine E_blk rfl ?_
    refine E_ps 1 (pc' := 50) (l' := [some (.ref x0), some (.int x1), none, none]) (st' := [.int (1 : Int32)]) rfl ?_
    refine E_j rfl rfl ?_
    exact E_wk (l' := [some (.ref x0), none, none, none]) ⟨rfl, trivial⟩ (s227_54 k0 h hr)
  · rw [if_neg c31] at h
    refine E_jf rfl rfl c31 ?_
    refine E_blk rfl ?_
    refine E_ps 1 (pc' := 54) (l' := [some (.ref x0), some (.int x1), none, none]) (st' := [.int (0 : Int32)]) rfl ?_
    exact E_wk (l' := [some (.ref x0), none, none, none]) ⟨rfl, trivial⟩ (s227_54 k0 h hr)

-- 229: ThreePlatesModel.slipAt(I)V
def dn229 (o : xH × Option Value) (r : xS × Unit) : Prop := o = (hk_of r.1, none)
noncomputable def f229 (x0 : Nat) (x1 : Int32) (s : xS) : Option (xS × Unit) := ifg (oK x0 12 = true) <| (hk_R x0 20).bind fun a1 => (aI s a1 x1).bind fun v3 => if (-999 : Int32) ≤ v3 then ((hk_R x0 20).bind fun a6 => (aI s a6 x1).bind fun v8 => (wI s a6 x1 (v8 - (1 : Int32))).bind fun t10 => (pI t10 x0 28 ((t10.1 x0 28) + (1 : Int32))).bind fun t12 => some (t12, ())) else (some (s, ()))
set_option maxRecDepth 20000 in
theorem s229 {sc : Option (Nat × (Nat → Int32))} {x0 : Nat} {x1 : Int32} {s : xS} {r : xS × Unit} (h : f229 x0 x1 s = some r) : Cl sc 1 229 [.ref x0, .int x1] (hk_of s) (hk_of r.1, none) := by
  unfold f229 at h
  obtain ⟨k0, h⟩ := ifg_some h
  refine ⟨pg_md 229, [some (.ref x0), some (.int x1)], pg_mt_md (by decide), (hk_rcv k0), rfl, ?_⟩
  generalize ho : ((hk_of r.1, none) : xH × Option Value) = o
  have hr : dn229 o r := ho.symm
  refine E_blk rfl ?_
  refine E_ps 1 (pc' := 1) (l' := [some (.ref x0), some (.int x1)]) (st' := [.ref x0]) rfl ?_
  obtain ⟨a1, e2, h⟩ := Option.bind_eq_some_iff.mp h
  refine E_gr k0 (by decide) rfl e2 ?_
  refine E_ps 1 (pc' := 5) (l' := [some (.ref x0), some (.int x1)]) (st' := [.int x1, .ref a1]) rfl ?_
  obtain ⟨v3, e4, h⟩ := Option.bind_eq_some_iff.mp h
  refine E_ai e4 ?_
  refine E_ps 1 (pc' := 9) (l' := [some (.ref x0), some (.int x1)]) (st' := [.int (-999 : Int32), .int v3]) rfl ?_
  by_cases c5 : (-999 : Int32) ≤ v3
  · rw [if_pos c5] at h
    refine E_jt rfl rfl c5 ?_
    refine E_blk rfl ?_
    refine E_ps 1 (pc' := 14) (l' := [some (.ref x0), some (.int x1)]) (st' := [.ref x0]) rfl ?_
    obtain ⟨a6, e7, h⟩ := Option.bind_eq_some_iff.mp h
    refine E_gr k0 (by decide) rfl e7 ?_
    refine E_ps 2 (pc' := 19) (l' := [some (.ref x0), some (.int x1)]) (st' := [.int x1, .ref a6, .int x1, .ref a6]) rfl ?_
    obtain ⟨v8, e9, h⟩ := Option.bind_eq_some_iff.mp h
    refine E_ai e9 ?_
    refine E_ps 2 (pc' := 22) (l' := [some (.ref x0), some (.int x1)]) (st' := [.int (v8 - (1 : Int32)), .int x1, .ref a6]) rfl ?_
    obtain ⟨t10, e11, h⟩ := Option.bind_eq_some_iff.mp h
    refine E_wi e11 ?_
    refine E_ps 2 (pc' := 25) (l' := [some (.ref x0), some (.int x1)]) (st' := [.ref x0, .ref x0]) rfl ?_
    refine E_gi k0 (by decide) rfl ?_
    refine E_ps 2 (pc' := 30) (l' := [some (.ref x0), some (.int x1)]) (st' := [.int ((t10.1 x0 28) + (1 : Int32)), .ref x0]) rfl ?_
    obtain ⟨t12, e13, h⟩ := Option.bind_eq_some_iff.mp h
    refine E_pi k0 (by decide) rfl e13 ?_
    cases h
    exact E_ret rfl (pg_mt_md (by decide)) rfl hr
  · rw [if_neg c5] at h
    refine E_jf rfl rfl c5 ?_
    refine E_blk rfl ?_
    cases h
    exact E_ret rfl (pg_mt_md (by decide)) rfl hr

-- 228: ThreePlatesModel.doRound(I)I
def dn228 (o : xH × Option Value) (r : xS × Int32) : Prop := o = (hk_of r.1, some (.int r.2))
def dn228_20 (sc : Option (Nat × (Nat → Int32))) (x0 : Nat) (x1 : Int32) (x3 : Int32) (o : xH × Option Value) (r : ((Int32 × Int32 × xS) ⊕ (xS × Int32))) : Prop := match r with
  | .inl q => Ev sc 7 228 [] 20 [some (.ref x0), some (.int x1), some (.int q.1), some (.int x3), some (.int q.2.1)] [] (hk_of q.2.2) o
  | .inr r => dn228 o r
noncomputable def f228_160 (x0 : Nat) (x1 : Int32) (x2 : Int32) (x3 : Int32) (x4 : Int32) (s : xS) : Option ((Int32 × Int32 × xS) ⊕ (xS × Int32)) := some (Sum.inl (x2, (x4 + (1 : Int32)), s))
set_option maxRecDepth 20000 in
theorem s228_160 {sc : Option (Nat × (Nat → Int32))} {x0 : Nat} {x1 : Int32} {x2 : Int32} {x3 : Int32} {x4 : Int32} {s : xS} {o : xH × Option Value} {r : ((Int32 × Int32 × xS) ⊕ (xS × Int32))} (k0 : oK x0 12 = true) (h : f228_160 x0 x1 x2 x3 x4 s = some r) (hr : dn228_20 sc x0 x1 x3 o r) : Ev sc 7 228 [] 160 [some (.ref x0), some (.int x1), some (.int x2), some (.int x3), some (.int x4)] [] (hk_of s) o := by
  unfold f228_160 at h
  refine E_blk rfl ?_
  refine E_ps 1 (pc' := 163) (l' := [some (.ref x0), some (.int x1), some (.int x2), some (.int x3), some (.int (x4 + (1 : Int32)))]) (st' := []) rfl ?_
  refine E_j rfl rfl ?_
  cases h
  exact E_wk (l' := [some (.ref x0), some (.int x1), some (.int x2), some (.int x3), some (.int (x4 + (1 : Int32)))]) ⟨rfl, rfl, rfl, rfl, rfl, trivial⟩ hr
noncomputable def f228_20 (x0 : Nat) (x1 : Int32) (x2 : Int32) (x3 : Int32) (x4 : Int32) (s : xS) : Option ((Int32 × Int32 × xS) ⊕ (xS × Int32)) := (f197 x0 s).bind fun z1 => if z1.2 ≤ x4 then (Option.map Sum.inr ((pI z1.1 x0 27 ((z1.1.1 x0 27) + x2)).bind fun t4 => some (t4, x2))) else ((hk_R x0 49).bind fun a6 => (aB z1.1 a6 x4).bind fun v8 => if v8 = 0 then (f228_160 x0 x1 x2 x3 x4 z1.1) else ((hk_R x0 20).bind fun a11 => (aI z1.1 a11 (x3 + x4)).bind fun v13 => if (-999 : Int32) ≤ v13 then ((hk_R x0 20).bind fun a16 => (aI z1.1 a16 (x3 + x4)).bind fun v18 => (hk_R x0 36).bind fun a20 => (aI z1.1 a20 x1).bind fun v22 => (wI z1.1 a16 (x3 + x4) (v18 - v22)).bind fun t24 => (hk_R x0 36).bind fun a26 => (aI t24 a26 x1).bind fun v28 => (pI t24 x0 28 ((t24.1 x0 28) + v28)).bind fun t30 => (hk_R x0 14).bind fun a32 => (aI t30 a32 (t30.1 x0 25)).bind fun v34 => if v34 = 0 then (f228_160 x0 x1 (x2 + (1 : Int32)) x3 x4 t30) else ((f226 x0 (8 : Int32) t30).bind fun z37 => (hk_R x0 14).bind fun a39 => (aI z37.1 a39 (z37.1.1 x0 25)).bind fun v41 => if z37.2 < v41 then ((f229 x0 (x3 + x4) z37.1).bind fun z44 => (f196 x0 z44.1).bind fun z46 => ifg (¬ z46.2 = 0) <| (f196 x0 z46.1).bind fun z49 => if (z49.2 - (1 : Int32)) ≤ (irm x4 z46.2) then (f228_160 x0 x1 (x2 + (1 : Int32)) x3 x4 z49.1) else ((f229 x0 ((x3 + x4) + (1 : Int32)) z49.1).bind fun z52 => f228_160 x0 x1 (x2 + (1 : Int32)) x3 x4 z52.1)) else (f228_160 x0 x1 (x2 + (1 : Int32)) x3 x4 z37.1))) else (f228_160 x0 x1 x2 x3 x4 z1.1)))
set_option maxRecDepth 20000 in
theorem s228_20 {sc : Option (Nat × (Nat → Int32))} {x0 : Nat} {x1 : Int32} {x2 : Int32} {x3 : Int32} {x4 : Int32} {s : xS} {o : xH × Option Value} {r : ((Int32 × Int32 × xS) ⊕ (xS × Int32))} (k0 : oK x0 12 = true) (h : f228_20 x0 x1 x2 x3 x4 s = some r) (hr : dn228_20 sc x0 x1 x3 o r) : Ev sc 7 228 [] 20 [some (.ref x0), some (.int x1), some (.int x2), some (.int x3), some (.int x4)] [] (hk_of s) o := by
  unfold f228_20 at h
  refine E_blk rfl ?_
  refine E_ps 2 (pc' := 23) (l' := [some (.ref x0), some (.int x1), some (.int x2), some (.int x3), some (.int x4)]) (st' := [.ref x0, .int x4]) rfl ?_
  obtain ⟨z1, e2, h⟩ := Option.bind_eq_some_iff.mp h
  refine E_callI (vs := [.ref x0]) (rest := [.int x4]) rfl (by decide) rfl rfl (Nat.le_of_ble_eq_true rfl) (s197 e2) (by decide) ?_
  by_cases c3 : z1.2 ≤ x4
  · rw [if_pos c3] at h
    refine E_jt rfl rfl c3 ?_
    obtain ⟨r, h, hr⟩ := lf_some (Dn := dn228_20 sc x0 x1 x3 o) h hr
    refine E_blk rfl ?_
    refine E_ps 2 (pc' := 168) (l' := [some (.ref x0), some (.int x1), some (.int x2), some (.int x3), some (.int x4)]) (st' := [.ref x0, .ref x0]) rfl ?_
    refine E_gi k0 (by decide) rfl ?_
    refine E_ps 2 (pc' := 173) (l' := [some (.ref x0), some (.int x1), some (.int x2), some (.int x3), some (.int x4)]) (st' := [.int ((z1.1.1 x0 27) + x2), .ref x0]) rfl ?_
    obtain ⟨t4, e5, h⟩ := Option.bind_eq_some_iff.mp h
    refine E_pi k0 (by decide) rfl e5 ?_
    refine E_ps 1 (pc' := 177) (l' := [some (.ref x0), some (.int x1), some (.int x2), some (.int x3), some (.int x4)]) (st' := [.int x2]) rfl ?_
    cases h
    exact E_ret rfl (pg_mt_md (by decide)) rfl hr
  · rw [if_neg c3] at h
    refine E_jf rfl rfl c3 ?_
    refine E_blk rfl ?_
    refine E_ps 1 (pc' := 30) (l' := [some (.ref x0), some (.int x1), some (.int x2), some (.int x3), some (.int x4)]) (st' := [.ref x0]) rfl ?_
    obtain ⟨a6, e7, h⟩ := Option.bind_eq_some_iff.mp h
    refine E_gr k0 (by decide) rfl e7 ?_
    refine E_ps 1 (pc' := 35) (l' := [some (.ref x0), some (.int x1), some (.int x2), some (.int x3), some (.int x4)]) (st' := [.int x4, .ref a6]) rfl ?_
    obtain ⟨v8, e9, h⟩ := Option.bind_eq_some_iff.mp h
    refine E_ab e9 ?_
    by_cases c10 : v8 = 0
    · rw [if_pos c10] at h
      refine E_jt rfl rfl c10 ?_
      exact E_wk (l' := [some (.ref x0), some (.int x1), some (.int x2), some (.int x3), some (.int x4)]) ⟨rfl, rfl, rfl, rfl, rfl, trivial⟩ (s228_160 k0 h hr)
    · rw [if_neg c10] at h
      refine E_jf rfl rfl c10 ?_
      refine E_blk rfl ?_
      refine E_ps 1 (pc' := 40) (l' := [some (.ref x0), some (.int x1), some (.int x2), some (.int x3), some (.int x4)]) (st' := [.ref x0]) rfl ?_
      obtain ⟨a11, e12, h⟩ := Option.bind_eq_some_iff.mp h
      refine E_gr k0 (by decide) rfl e12 ?_
      refine E_ps 3 (pc' := 47) (l' := [some (.ref x0), some (.int x1), some (.int x2), some (.int x3), some (.int x4)]) (st' := [.int (x3 + x4), .ref a11]) rfl ?_
      obtain ⟨v13, e14, h⟩ := Option.bind_eq_some_iff.mp h
      refine E_ai e14 ?_
      refine E_ps 1 (pc' := 51) (l' := [some (.ref x0), some (.int x1), some (.int x2), some (.int x3), some (.int x4)]) (st' := [.int (-999 : Int32), .int v13]) rfl ?_
      by_cases c15 : (-999 : Int32) ≤ v13
      · rw [if_pos c15] at h
        refine E_jt rfl rfl c15 ?_
        refine E_blk rfl ?_
        refine E_ps 2 (pc' := 61) (l' := [some (.ref x0), some (.int x1), some (.int (x2 + (1 : Int32))), some (.int x3), some (.int x4)]) (st' := [.ref x0]) rfl ?_
        obtain ⟨a16, e17, h⟩ := Option.bind_eq_some_iff.mp h
        refine E_gr k0 (by decide) rfl e17 ?_
        refine E_ps 4 (pc' := 69) (l' := [some (.ref x0), some (.int x1), some (.int (x2 + (1 : Int32))), some (.int x3), some (.int x4)]) (st' := [.int (x3 + x4), .ref a16, .int (x3 + x4), .ref a16]) rfl ?_
        obtain ⟨v18, e19, h⟩ := Option.bind_eq_some_iff.mp h
        refine E_ai e19 ?_
        refine E_ps 1 (pc' := 71) (l' := [some (.ref x0), some (.int x1), some (.int (x2 + (1 : Int32))), some (.int x3), some (.int x4)]) (st' := [.ref x0, .int v18, .int (x3 + x4), .ref a16]) rfl ?_
        obtain ⟨a20, e21, h⟩ := Option.bind_eq_some_iff.mp h
        refine E_gr k0 (by decide) rfl e21 ?_
        refine E_ps 1 (pc' := 75) (l' := [some (.ref x0), some (.int x1), some (.int (x2 + (1 : Int32))), some (.int x3), some (.int x4)]) (st' := [.int x1, .ref a20, .int v18, .int (x3 + x4), .ref a16]) rfl ?_
        obtain ⟨v22, e23, h⟩ := Option.bind_eq_some_iff.mp h
        refine E_ai e23 ?_
        refine E_ps 1 (pc' := 77) (l' := [some (.ref x0), some (.int x1), some (.int (x2 + (1 : Int32))), some (.int x3), some (.int x4)]) (st' := [.int (v18 - v22), .int (x3 + x4), .ref a16]) rfl ?_
        obtain ⟨t24, e25, h⟩ := Option.bind_eq_some_iff.mp h
        refine E_wi e25 ?_
        refine E_ps 2 (pc' := 80) (l' := [some (.ref x0), some (.int x1), some (.int (x2 + (1 : Int32))), some (.int x3), some (.int x4)]) (st' := [.ref x0, .ref x0]) rfl ?_
        refine E_gi k0 (by decide) rfl ?_
        refine E_ps 1 (pc' := 84) (l' := [some (.ref x0), some (.int x1), some (.int (x2 + (1 : Int32))), some (.int x3), some (.int x4)]) (st' := [.ref x0, .int (t24.1 x0 28), .ref x0]) rfl ?_
        obtain ⟨a26, e27, h⟩ := Option.bind_eq_some_iff.mp h
        refine E_gr k0 (by decide) rfl e27 ?_
        refine E_ps 1 (pc' := 88) (l' := [some (.ref x0), some (.int x1), some (.int (x2 + (1 : Int32))), some (.int x3), some (.int x4)]) (st' := [.int x1, .ref a26, .int (t24.1 x0 28), .ref x0]) rfl ?_
        obtain ⟨v28, e29, h⟩ := Option.bind_eq_some_iff.mp h
        refine E_ai e29 ?_
        refine E_ps 1 (pc' := 90) (l' := [some (.ref x0), some (.int x1), some (.int (x2 + (1 : Int32))), some (.int x3), some (.int x4)]) (st' := [.int ((t24.1 x0 28) + v28), .ref x0]) rfl ?_
        obtain ⟨t30, e31, h⟩ := Option.bind_eq_some_iff.mp h
        refine E_pi k0 (by decide) rfl e31 ?_
        refine E_ps 1 (pc' := 94) (l' := [some (.ref x0), some (.int x1), some (.int (x2 + (1 : Int32))), some (.int x3), some (.int x4)]) (st' := [.ref x0]) rfl ?_
        obtain ⟨a32, e33, h⟩ := Option.bind_eq_some_iff.mp h
        refine E_gr k0 (by decide) rfl e33 ?_
        refine E_ps 1 (pc' := 98) (l' := [some (.ref x0), some (.int x1), some (.int (x2 + (1 : Int32))), some (.int x3), some (.int x4)]) (st' := [.ref x0, .ref a32]) rfl ?_
        refine E_gi k0 (by decide) rfl ?_
        obtain ⟨v34, e35, h⟩ := Option.bind_eq_some_iff.mp h
        refine E_ai e35 ?_
        by_cases c36 : v34 = 0
        · rw [if_pos c36] at h
          refine E_jt rfl rfl c36 ?_
          exact E_wk (l' := [some (.ref x0), some (.int x1), some (.int (x2 + (1 : Int32))), some (.int x3), some (.int x4)]) ⟨rfl, rfl, rfl, rfl, rfl, trivial⟩ (s228_160 k0 h hr)
        · rw [if_neg c36] at h
          refine E_jf rfl rfl c36 ?_
          refine E_blk rfl ?_
          refine E_ps 2 (pc' := 108) (l' := [some (.ref x0), some (.int x1), some (.int (x2 + (1 : Int32))), some (.int x3), some (.int x4)]) (st' := [.int (8 : Int32), .ref x0]) rfl ?_
          obtain ⟨z37, e38, h⟩ := Option.bind_eq_some_iff.mp h
          refine E_callI (vs := [.ref x0, .int (8 : Int32)]) (rest := []) rfl (by decide) rfl rfl (Nat.le_of_ble_eq_true rfl) (s226 e38) (by decide) ?_
          refine E_ps 1 (pc' := 112) (l' := [some (.ref x0), some (.int x1), some (.int (x2 + (1 : Int32))), some (.int x3), some (.int x4)]) (st' := [.ref x0, .int z37.2]) rfl ?_
          obtain ⟨a39, e40, h⟩ := Option.bind_eq_some_iff.mp h
          refine E_gr k0 (by decide) rfl e40 ?_
          refine E_ps 1 (pc' := 116) (l' := [some (.ref x0), some (.int x1), some (.int (x2 + (1 : Int32))), some (.int x3), some (.int x4)]) (st' := [.ref x0, .ref a39, .int z37.2]) rfl ?_
          refine E_gi k0 (by decide) rfl ?_
          obtain ⟨v41, e42, h⟩ := Option.bind_eq_some_iff.mp h
          refine E_ai e42 ?_
          by_cases c43 : z37.2 < v41
          · rw [if_pos c43] at h
            refine E_jt rfl rfl c43 ?_
            refine E_blk rfl ?_
            refine E_ps 4 (pc' := 131) (l' := [some (.ref x0), some (.int x1), some (.int (x2 + (1 : Int32))), some (.int x3), some (.int x4)]) (st' := [.int (x3 + x4), .ref x0]) rfl ?_
            obtain ⟨z44, e45, h⟩ := Option.bind_eq_some_iff.mp h
            refine E_callV (vs := [.ref x0, .int (x3 + x4)]) (rest := []) rfl (by decide) rfl rfl (Nat.le_of_ble_eq_true rfl) (s229 e45) (by decide) ?_
            refine E_ps 2 (pc' := 137) (l' := [some (.ref x0), some (.int x1), some (.int (x2 + (1 : Int32))), some (.int x3), some (.int x4)]) (st' := [.ref x0, .int x4]) rfl ?_
            obtain ⟨z46, e47, h⟩ := Option.bind_eq_some_iff.mp h
            refine E_callI (vs := [.ref x0]) (rest := [.int x4]) rfl (by decide) rfl rfl (Nat.le_of_ble_eq_true rfl) (s196 e47) (by decide) ?_
            obtain ⟨g48, h⟩ := ifg_some h
            refine E_irem g48 ?_
            refine E_ps 1 (pc' := 142) (l' := [some (.ref x0), some (.int x1), some (.int (x2 + (1 : Int32))), some (.int x3), some (.int x4)]) (st' := [.ref x0, .int (irm x4 z46.2)]) rfl ?_
            obtain ⟨z49, e50, h⟩ := Option.bind_eq_some_iff.mp h
            refine E_callI (vs := [.ref x0]) (rest := [.int (irm x4 z46.2)]) rfl (by decide) rfl rfl (Nat.le_of_ble_eq_true rfl) (s196 e50) (by decide) ?_
            refine E_ps 2 (pc' := 147) (l' := [some (.ref x0), some (.int x1), some (.int (x2 + (1 : Int32))), some (.int x3), some (.int x4)]) (st' := [.int (z49.2 - (1 : Int32)), .int (irm x4 z46.2)]) rfl ?_
            by_cases c51 : (z49.2 - (1 : Int32)) ≤ (irm x4 z46.2)
            · rw [if_pos c51] at h
              refine E_jt rfl rfl c51 ?_
              exact E_wk (l' := [some (.ref x0), some (.int x1), some (.int (x2 + (1 : Int32))), some (.int x3), some (.int x4)]) ⟨rfl, rfl, rfl, rfl, rfl, trivial⟩ (s228_160 k0 h hr)
            · rw [if_neg c51] at h
              refine E_jf rfl rfl c51 ?_
              refine E_blk rfl ?_
              refine E_ps 6 (pc' := 157) (l' := [some (.ref x0), some (.int x1), some (.int (x2 + (1 : Int32))), some (.int x3), some (.int x4)]) (st' := [.int ((x3 + x4) + (1 : Int32)), .ref x0]) rfl ?_
              obtain ⟨z52, e53, h⟩ := Option.bind_eq_some_iff.mp h
              refine E_callV (vs := [.ref x0, .int ((x3 + x4) + (1 : Int32))]) (rest := []) rfl (by decide) rfl rfl (Nat.le_of_ble_eq_true rfl) (s229 e53) (by decide) ?_
              exact E_wk (l' := [some (.ref x0), some (.int x1), some (.int (x2 + (1 : Int32))), some (.int x3), some (.int x4)]) ⟨rfl, rfl, rfl, rfl, rfl, trivial⟩ (s228_160 k0 h hr)
          · rw [if_neg c43] at h
            refine E_jf rfl rfl c43 ?_
            refine E_blk rfl ?_
            refine E_j rfl rfl ?_
            exact E_wk (l' := [some (.ref x0), some (.int x1), some (.int (x2 + (1 : Int32))), some (.int x3), some (.int x4)]) ⟨rfl, rfl, rfl, rfl, rfl, trivial⟩ (s228_160 k0 h hr)
      · rw [if_neg c15] at h
        refine E_jf rfl rfl c15 ?_
        refine E_blk rfl ?_
        refine E_j rfl rfl ?_
        exact E_wk (l' := [some (.ref x0), some (.int x1), some (.int x2), some (.int x3), some (.int x4)]) ⟨rfl, rfl, rfl, rfl, rfl, trivial⟩ (s228_160 k0 h hr)
theorem s228_20_w {sc : Option (Nat × (Nat → Int32))} {x0 : Nat} {x1 : Int32} {x2 : Int32} {x3 : Int32} {x4 : Int32} {s : xS} {o : xH × Option Value} {r : (xS × Int32)} (k0 : oK x0 12 = true) (h : whl (fun q : (Int32 × Int32 × xS) => f228_20 x0 x1 q.1 x3 q.2.1 q.2.2) (x2, x4, s) = some r) (hr : dn228 o r) : Ev sc 7 228 [] 20 [some (.ref x0), some (.int x1), some (.int x2), some (.int x3), some (.int x4)] [] (hk_of s) o := by
  refine whl_snd (E := fun q : (Int32 × Int32 × xS) => Ev sc 7 228 [] 20 [some (.ref x0), some (.int x1), some (.int q.1), some (.int x3), some (.int q.2.1)] [] (hk_of q.2.2) o) (P := fun r => dn228 o r) (fun q r h hr => ?_) h hr
  exact s228_20 k0 h (by cases r <;> exact hr)
noncomputable def f228 (x0 : Nat) (x1 : Int32) (s : xS) : Option (xS × Int32) := ifg (oK x0 12 = true) <| (f227 x0 x1 s).bind fun z1 => (hk_R x0 35).bind fun a3 => (aI z1.1 a3 x1).bind fun v5 => whl (fun q : (Int32 × Int32 × xS) => f228_20 x0 x1 q.1 ((25 : Int32) * v5) q.2.1 q.2.2) ((0 : Int32), (0 : Int32), z1.1)
set_option maxRecDepth 20000 in
theorem s228 {sc : Option (Nat × (Nat → Int32))} {x0 : Nat} {x1 : Int32} {s : xS} {r : xS × Int32} (h : f228 x0 x1 s = some r) : Cl sc 7 228 [.ref x0, .int x1] (hk_of s) (hk_of r.1, some (.int r.2)) := by
  unfold f228 at h
  obtain ⟨k0, h⟩ := ifg_some h
  refine ⟨pg_md 228, [some (.ref x0), some (.int x1), none, none, none], pg_mt_md (by decide), (hk_rcv k0), rfl, ?_⟩
  generalize ho : ((hk_of r.1, some (Value.int r.2)) : xH × Option Value) = o
  have hr : dn228 o r := ho.symm
  refine E_blk rfl ?_
  refine E_ps 2 (pc' := 2) (l' := [some (.ref x0), some (.int x1), none, none, none]) (st' := [.int x1, .ref x0]) rfl ?_
  obtain ⟨z1, e2, h⟩ := Option.bind_eq_some_iff.mp h
  refine E_callV (vs := [.ref x0, .int x1]) (rest := []) rfl (by decide) rfl rfl (Nat.le_of_ble_eq_true rfl) (s227 e2) (by decide) ?_
  refine E_ps 4 (pc' := 10) (l' := [some (.ref x0), some (.int x1), some (.int (0 : Int32)), none, none]) (st' := [.ref x0, .int (25 : Int32)]) rfl ?_
  obtain ⟨a3, e4, h⟩ := Option.bind_eq_some_iff.mp h
  refine E_gr k0 (by decide) rfl e4 ?_
  refine E_ps 1 (pc' := 14) (l' := [some (.ref x0), some (.int x1), some (.int (0 : Int32)), none, none]) (st' := [.int x1, .ref a3, .int (25 : Int32)]) rfl ?_
  obtain ⟨v5, e6, h⟩ := Option.bind_eq_some_iff.mp h
  refine E_ai e6 ?_
  refine E_ps 4 (pc' := 20) (l' := [some (.ref x0), some (.int x1), some (.int (0 : Int32)), some (.int ((25 : Int32) * v5)), some (.int (0 : Int32))]) (st' := []) rfl ?_
  exact E_wk (l' := [some (.ref x0), some (.int x1), some (.int (0 : Int32)), some (.int ((25 : Int32) * v5)), some (.int (0 : Int32))]) ⟨rfl, rfl, rfl, rfl, rfl, trivial⟩ (s228_20_w k0 h hr)

-- 230: ThreePlatesModel.round(I)I
def dn230 (o : xH × Option Value) (r : xS × Int32) : Prop := o = (hk_of r.1, some (.int r.2))
noncomputable def f230_23 (y0 : Int32) (s : xS) : Option (xS × Int32) := some (s, y0)
set_option maxRecDepth 20000 in
theorem s230_23 {sc : Option (Nat × (Nat → Int32))} {y0 : Int32} {s : xS} {o : xH × Option Value} {r : (xS × Int32)}  (h : f230_23 y0 s = some r) (hr : dn230 o r) : Ev sc 8 230 [] 23 [none, none] [.int y0] (hk_of s) o := by
  unfold f230_23 at h
  refine E_blk rfl ?_
  cases h
  exact E_ret rfl (pg_mt_md (by decide)) rfl hr
noncomputable def f230 (x0 : Nat) (x1 : Int32) (s : xS) : Option (xS × Int32) := ifg (oK x0 12 = true) <| (f195 x1 (0 : Int32) ((s.1 x0 37) - (1 : Int32)) s).bind fun z1 => if z1.2 = 0 then (f230_23 (-1 : Int32) z1.1) else ((f228 x0 x1 z1.1).bind fun z4 => f230_23 z4.2 z4.1)
set_option maxRecDepth 20000 in
theorem s230 {sc : Option (Nat × (Nat → Int32))} {x0 : Nat} {x1 : Int32} {s : xS} {r : xS × Int32} (h : f230 x0 x1 s = some r) : Cl sc 8 230 [.ref x0, .int x1] (hk_of s) (hk_of r.1, some (.int r.2)) := by
  unfold f230 at h
  obtain ⟨k0, h⟩ := ifg_some h
  refine ⟨pg_md 230, [some (.ref x0), some (.int x1)], pg_mt_md (by decide), (hk_rcv k0), rfl, ?_⟩
  generalize ho : ((hk_of r.1, some (Value.int r.2)) : xH × Option Value) = o
  have hr : dn230 o r := ho.symm
  refine E_blk rfl ?_
  refine E_ps 3 (pc' := 3) (l' := [some (.ref x0), some (.int x1)]) (st' := [.ref x0, .int (0 : Int32), .int x1]) rfl ?_
  refine E_gi k0 (by decide) rfl ?_
  refine E_ps 2 (pc' := 8) (l' := [some (.ref x0), some (.int x1)]) (st' := [.int ((s.1 x0 37) - (1 : Int32)), .int (0 : Int32), .int x1]) rfl ?_
  obtain ⟨z1, e2, h⟩ := Option.bind_eq_some_iff.mp h
  refine E_callI (vs := [.int x1, .int (0 : Int32), .int ((s.1 x0 37) - (1 : Int32))]) (rest := []) rfl (by decide) rfl rfl (Nat.le_of_ble_eq_true rfl) (s195 e2) (by decide) ?_
  by_cases c3 : z1.2 = 0
  · rw [if_pos c3] at h
    refine E_jt rfl rfl c3 ?_
    refine E_blk rfl ?_
    refine E_ps 1 (pc' := 23) (l' := [some (.ref x0), some (.int x1)]) (st' := [.int (-1 : Int32)]) rfl ?_
    exact E_wk (l' := [none, none]) trivial (s230_23  h hr)
  · rw [if_neg c3] at h
    refine E_jf rfl rfl c3 ?_
    refine E_blk rfl ?_
    refine E_ps 2 (pc' := 16) (l' := [some (.ref x0), some (.int x1)]) (st' := [.int x1, .ref x0]) rfl ?_
    obtain ⟨z4, e5, h⟩ := Option.bind_eq_some_iff.mp h
    refine E_callI (vs := [.ref x0, .int x1]) (rest := []) rfl (by decide) rfl rfl (Nat.le_of_ble_eq_true rfl) (s228 e5) (by decide) ?_
    refine E_j rfl rfl ?_
    exact E_wk (l' := [none, none]) trivial (s230_23  h hr)

-- 231: ThreePlatesModel.run(I)I
def dn231 (o : xH × Option Value) (r : xS × Int32) : Prop := o = (hk_of r.1, some (.int r.2))
def dn231_22 (sc : Option (Nat × (Nat → Int32))) (x0 : Nat) (x1 : Int32) (o : xH × Option Value) (r : ((Int32 × xS) ⊕ (xS × Int32))) : Prop := match r with
  | .inl q => Ev sc 8 231 [] 22 [some (.ref x0), some (.int x1), some (.int q.1), none] [] (hk_of q.2) o
  | .inr r => dn231 o r
noncomputable def f231_18  (s : xS) : Option (xS × Int32) := some (s, (-1 : Int32))
set_option maxRecDepth 20000 in
theorem s231_18 {sc : Option (Nat × (Nat → Int32))}  {s : xS} {o : xH × Option Value} {r : (xS × Int32)}  (h : f231_18  s = some r) (hr : dn231 o r) : Ev sc 8 231 [] 18 [none, none, none, none] [] (hk_of s) o := by
  unfold f231_18 at h
  refine E_blk rfl ?_
  refine E_ps 1 (pc' := 19) (l' := [none, none, none, none]) (st' := [.int (-1 : Int32)]) rfl ?_
  cases h
  exact E_ret rfl (pg_mt_md (by decide)) rfl hr
noncomputable def f231_22 (x0 : Nat) (x1 : Int32) (x2 : Int32) (s : xS) : Option ((Int32 × xS) ⊕ (xS × Int32)) := if x1 ≤ x2 then (Option.map Sum.inr (some (s, (s.1 x0 27)))) else (ifg (¬ (s.1 x0 37) = 0) <| (f228 x0 (irm x2 (s.1 x0 37)) s).bind fun z3 => if 0 ≤ z3.2 then (some (Sum.inl ((x2 + (1 : Int32)), z3.1))) else (Option.map Sum.inr (some (z3.1, (-1 : Int32)))))
set_option maxRecDepth 20000 in
theorem s231_22 {sc : Option (Nat × (Nat → Int32))} {x0 : Nat} {x1 : Int32} {x2 : Int32} {s : xS} {o : xH × Option Value} {r : ((Int32 × xS) ⊕ (xS × Int32))} (k0 : oK x0 12 = true) (h : f231_22 x0 x1 x2 s = some r) (hr : dn231_22 sc x0 x1 o r) : Ev sc 8 231 [] 22 [some (.ref x0), some (.int x1), some (.int x2), none] [] (hk_of s) o := by
  unfold f231_22 at h
  refine E_blk rfl ?_
  refine E_ps 2 (pc' := 24) (l' := [some (.ref x0), some (.int x1), some (.int x2), none]) (st' := [.int x1, .int x2]) rfl ?_
  by_cases c1 : x1 ≤ x2
  · rw [if_pos c1] at h
    refine E_jt rfl rfl c1 ?_
    obtain ⟨r, h, hr⟩ := lf_some (Dn := dn231_22 sc x0 x1 o) h hr
    refine E_blk rfl ?_
    refine E_ps 1 (pc' := 51) (l' := [some (.ref x0), some (.int x1), some (.int x2), none]) (st' := [.ref x0]) rfl ?_
    refine E_gi k0 (by decide) rfl ?_
    cases h
    exact E_ret rfl (pg_mt_md (by decide)) rfl hr
  · rw [if_neg c1] at h
    refine E_jf rfl rfl c1 ?_
    refine E_blk rfl ?_
    refine E_ps 3 (pc' := 30) (l' := [some (.ref x0), some (.int x1), some (.int x2), none]) (st' := [.ref x0, .int x2, .ref x0]) rfl ?_
    refine E_gi k0 (by decide) rfl ?_
    obtain ⟨g2, h⟩ := ifg_some h
    refine E_irem g2 ?_
    obtain ⟨z3, e4, h⟩ := Option.bind_eq_some_iff.mp h
    refine E_callI (vs := [.ref x0, .int (irm x2 (s.1 x0 37))]) (rest := []) rfl (by decide) rfl rfl (Nat.le_of_ble_eq_true rfl) (s228 e4) (by decide) ?_
    refine E_ps 2 (pc' := 39) (l' := [some (.ref x0), some (.int x1), some (.int x2), some (.int z3.2)]) (st' := [.int z3.2]) rfl ?_
    by_cases c5 : 0 ≤ z3.2
    · rw [if_pos c5] at h
      refine E_jt rfl rfl c5 ?_
      refine E_blk rfl ?_
      refine E_ps 1 (pc' := 47) (l' := [some (.ref x0), some (.int x1), some (.int (x2 + (1 : Int32))), some (.int z3.2)]) (st' := []) rfl ?_
      refine E_j rfl rfl ?_
      cases h
      exact E_wk (l' := [some (.ref x0), some (.int x1), some (.int (x2 + (1 : Int32))), none]) ⟨rfl, rfl, rfl, trivial⟩ hr
    · rw [if_neg c5] at h
      refine E_jf rfl rfl c5 ?_
      obtain ⟨r, h, hr⟩ := lf_some (Dn := dn231_22 sc x0 x1 o) h hr
      refine E_blk rfl ?_
      refine E_ps 1 (pc' := 43) (l' := [some (.ref x0), some (.int x1), some (.int x2), some (.int z3.2)]) (st' := [.int (-1 : Int32)]) rfl ?_
      cases h
      exact E_ret rfl (pg_mt_md (by decide)) rfl hr
theorem s231_22_w {sc : Option (Nat × (Nat → Int32))} {x0 : Nat} {x1 : Int32} {x2 : Int32} {s : xS} {o : xH × Option Value} {r : (xS × Int32)} (k0 : oK x0 12 = true) (h : whl (fun q : (Int32 × xS) => f231_22 x0 x1 q.1 q.2) (x2, s) = some r) (hr : dn231 o r) : Ev sc 8 231 [] 22 [some (.ref x0), some (.int x1), some (.int x2), none] [] (hk_of s) o := by
  refine whl_snd (E := fun q : (Int32 × xS) => Ev sc 8 231 [] 22 [some (.ref x0), some (.int x1), some (.int q.1), none] [] (hk_of q.2) o) (P := fun r => dn231 o r) (fun q r h hr => ?_) h hr
  exact s231_22 k0 h (by cases r <;> exact hr)
noncomputable def f231 (x0 : Nat) (x1 : Int32) (s : xS) : Option (xS × Int32) := ifg (oK x0 12 = true) <| (f195 x1 (0 : Int32) (300 : Int32) s).bind fun z1 => if z1.2 = 0 then (f231_18  z1.1) else (if (z1.1.1 x0 37) = 0 then (f231_18  z1.1) else (whl (fun q : (Int32 × xS) => f231_22 x0 x1 q.1 q.2) ((0 : Int32), z1.1)))
set_option maxRecDepth 20000 in
theorem s231 {sc : Option (Nat × (Nat → Int32))} {x0 : Nat} {x1 : Int32} {s : xS} {r : xS × Int32} (h : f231 x0 x1 s = some r) : Cl sc 8 231 [.ref x0, .int x1] (hk_of s) (hk_of r.1, some (.int r.2)) := by
  unfold f231 at h
  obtain ⟨k0, h⟩ := ifg_some h
  refine ⟨pg_md 231, [some (.ref x0), some (.int x1), none, none], pg_mt_md (by decide), (hk_rcv k0), rfl, ?_⟩
  generalize ho : ((hk_of r.1, some (Value.int r.2)) : xH × Option Value) = o
  have hr : dn231 o r := ho.symm
  refine E_blk rfl ?_
  refine E_ps 3 (pc' := 5) (l' := [some (.ref x0), some (.int x1), none, none]) (st' := [.int (300 : Int32), .int (0 : Int32), .int x1]) rfl ?_
  obtain ⟨z1, e2, h⟩ := Option.bind_eq_some_iff.mp h
  refine E_callI (vs := [.int x1, .int (0 : Int32), .int (300 : Int32)]) (rest := []) rfl (by decide) rfl rfl (Nat.le_of_ble_eq_true rfl) (s195 e2) (by decide) ?_
  by_cases c3 : z1.2 = 0
  · rw [if_pos c3] at h
    refine E_jt rfl rfl c3 ?_
    exact E_wk (l' := [none, none, none, none]) trivial (s231_18  h hr)
  · rw [if_neg c3] at h
    refine E_jf rfl rfl c3 ?_
    refine E_blk rfl ?_
    refine E_ps 1 (pc' := 12) (l' := [some (.ref x0), some (.int x1), none, none]) (st' := [.ref x0]) rfl ?_
    refine E_gi k0 (by decide) rfl ?_
    by_cases c4 : (z1.1.1 x0 37) = 0
    · rw [if_pos c4] at h
      refine E_jt rfl rfl c4 ?_
      exact E_wk (l' := [none, none, none, none]) trivial (s231_18  h hr)
    · rw [if_neg c4] at h
      refine E_jf rfl rfl c4 ?_
      refine E_blk rfl ?_
      refine E_ps 2 (pc' := 22) (l' := [some (.ref x0), some (.int x1), some (.int (0 : Int32)), none]) (st' := []) rfl ?_
      exact E_wk (l' := [some (.ref x0), some (.int x1), some (.int (0 : Int32)), none]) ⟨rfl, rfl, rfl, trivial⟩ (s231_22_w k0 h hr)

-- 232: ThreePlatesModel.layOff(I)V
def dn232 (o : xH × Option Value) (r : xS × Unit) : Prop := o = (hk_of r.1, none)
noncomputable def f232 (x0 : Nat) (x1 : Int32) (s : xS) : Option (xS × Unit) := ifg (oK x0 12 = true) <| (f207 x0 x1 (1 : Int32) s).bind fun z1 => (f212 x0 z1.1).bind fun z3 => some (z3.1, ())
set_option maxRecDepth 20000 in
theorem s232 {sc : Option (Nat × (Nat → Int32))} {x0 : Nat} {x1 : Int32} {s : xS} {r : xS × Unit} (h : f232 x0 x1 s = some r) : Cl sc 5 232 [.ref x0, .int x1] (hk_of s) (hk_of r.1, none) := by
  unfold f232 at h
  obtain ⟨k0, h⟩ := ifg_some h
  refine ⟨pg_md 232, [some (.ref x0), some (.int x1)], pg_mt_md (by decide), (hk_rcv k0), rfl, ?_⟩
  generalize ho : ((hk_of r.1, none) : xH × Option Value) = o
  have hr : dn232 o r := ho.symm
  refine E_blk rfl ?_
  refine E_ps 3 (pc' := 3) (l' := [some (.ref x0), some (.int x1)]) (st' := [.int (1 : Int32), .int x1, .ref x0]) rfl ?_
  obtain ⟨z1, e2, h⟩ := Option.bind_eq_some_iff.mp h
  refine E_callV (vs := [.ref x0, .int x1, .int (1 : Int32)]) (rest := []) rfl (by decide) rfl rfl (Nat.le_of_ble_eq_true rfl) (s207 e2) (by decide) ?_
  refine E_ps 1 (pc' := 7) (l' := [some (.ref x0), some (.int x1)]) (st' := [.ref x0]) rfl ?_
  obtain ⟨z3, e4, h⟩ := Option.bind_eq_some_iff.mp h
  refine E_callV (vs := [.ref x0]) (rest := []) rfl (by decide) rfl rfl (Nat.le_of_ble_eq_true rfl) (s212 e4) (by decide) ?_
  cases h
  exact E_ret rfl (pg_mt_md (by decide)) rfl hr

-- 233: ThreePlatesModel.off(II)I
def dn233 (o : xH × Option Value) (r : xS × Int32) : Prop := o = (hk_of r.1, some (.int r.2))
noncomputable def f233_15  (s : xS) : Option (xS × Int32) := some (s, (-1 : Int32))
set_option maxRecDepth 20000 in
theorem s233_15 {sc : Option (Nat × (Nat → Int32))}  {s : xS} {o : xH × Option Value} {r : (xS × Int32)}  (h : f233_15  s = some r) (hr : dn233 o r) : Ev sc 6 233 [] 15 [none, none, none] [] (hk_of s) o := by
  unfold f233_15 at h
  refine E_blk rfl ?_
  refine E_ps 1 (pc' := 16) (l' := [none, none, none]) (st' := [.int (-1 : Int32)]) rfl ?_
  cases h
  exact E_ret rfl (pg_mt_md (by decide)) rfl hr
noncomputable def f233 (x0 : Nat) (x1 : Int32) (x2 : Int32) (s : xS) : Option (xS × Int32) := ifg (oK x0 12 = true) <| (f198 x0 x1 s).bind fun z1 => if z1.2 = 0 then (f233_15  z1.1) else ((f217 x2 z1.1).bind fun z4 => if z4.2 = 0 then (f233_15  z4.1) else ((f232 x0 x1 z4.1).bind fun z7 => (f223 x0 z7.1).bind fun z9 => (f216 z9.2 (z9.1.2 x0 45) x2 z9.1).bind fun z11 => some (z11.1, (z11.2).toInt32)))
set_option maxRecDepth 20000 in
theorem s233 {sc : Option (Nat × (Nat → Int32))} {x0 : Nat} {x1 : Int32} {x2 : Int32} {s : xS} {r : xS × Int32} (h : f233 x0 x1 x2 s = some r) : Cl sc 6 233 [.ref x0, .int x1, .int x2] (hk_of s) (hk_of r.1, some (.int r.2)) := by
  unfold f233 at h
  obtain ⟨k0, h⟩ := ifg_some h
  refine ⟨pg_md 233, [some (.ref x0), some (.int x1), some (.int x2)], pg_mt_md (by decide), (hk_rcv k0), rfl, ?_⟩
  generalize ho : ((hk_of r.1, some (Value.int r.2)) : xH × Option Value) = o
  have hr : dn233 o r := ho.symm
  refine E_blk rfl ?_
  refine E_ps 2 (pc' := 2) (l' := [some (.ref x0), some (.int x1), some (.int x2)]) (st' := [.int x1, .ref x0]) rfl ?_
  obtain ⟨z1, e2, h⟩ := Option.bind_eq_some_iff.mp h
  refine E_callI (vs := [.ref x0, .int x1]) (rest := []) rfl (by decide) rfl rfl (Nat.le_of_ble_eq_true rfl) (s198 e2) (by decide) ?_
  by_cases c3 : z1.2 = 0
  · rw [if_pos c3] at h
    refine E_jt rfl rfl c3 ?_
    exact E_wk (l' := [none, none, none]) trivial (s233_15  h hr)
  · rw [if_neg c3] at h
    refine E_jf rfl rfl c3 ?_
    refine E_blk rfl ?_
    refine E_ps 1 (pc' := 9) (l' := [some (.ref x0), some (.int x1), some (.int x2)]) (st' := [.int x2]) rfl ?_
    obtain ⟨z4, e5, h⟩ := Option.bind_eq_some_iff.mp h
    refine E_callI (vs := [.int x2]) (rest := []) rfl (by decide) rfl rfl (Nat.le_of_ble_eq_true rfl) (s217 e5) (by decide) ?_
    by_cases c6 : z4.2 = 0
    · rw [if_pos c6] at h
      refine E_jt rfl rfl c6 ?_
      exact E_wk (l' := [none, none, none]) trivial (s233_15  h hr)
    · rw [if_neg c6] at h
      refine E_jf rfl rfl c6 ?_
      refine E_blk rfl ?_
      refine E_ps 2 (pc' := 19) (l' := [some (.ref x0), some (.int x1), some (.int x2)]) (st' := [.int x1, .ref x0]) rfl ?_
      obtain ⟨z7, e8, h⟩ := Option.bind_eq_some_iff.mp h
      refine E_callV (vs := [.ref x0, .int x1]) (rest := []) rfl (by decide) rfl rfl (Nat.le_of_ble_eq_true rfl) (s232 e8) (by decide) ?_
      refine E_ps 1 (pc' := 23) (l' := [some (.ref x0), some (.int x1), some (.int x2)]) (st' := [.ref x0]) rfl ?_
      obtain ⟨z9, e10, h⟩ := Option.bind_eq_some_iff.mp h
      refine E_callL (vs := [.ref x0]) (rest := []) rfl (by decide) rfl rfl (Nat.le_of_ble_eq_true rfl) (s223 e10) (by decide) ?_
      refine E_ps 1 (pc' := 27) (l' := [some (.ref x0), some (.int x1), some (.int x2)]) (st' := [.ref x0, .long z9.2]) rfl ?_
      refine E_gl k0 (by decide) rfl ?_
      refine E_ps 1 (pc' := 31) (l' := [some (.ref x0), some (.int x1), some (.int x2)]) (st' := [.int x2, .long (z9.1.2 x0 45), .long z9.2]) rfl ?_
      obtain ⟨z11, e12, h⟩ := Option.bind_eq_some_iff.mp h
      refine E_callL (vs := [.long z9.2, .long (z9.1.2 x0 45), .int x2]) (rest := []) rfl (by decide) rfl rfl (Nat.le_of_ble_eq_true rfl) (s216 e12) (by decide) ?_
      refine E_ps 1 (pc' := 35) (l' := [some (.ref x0), some (.int x1), some (.int x2)]) (st' := [.int (z11.2).toInt32]) rfl ?_
      cases h
      exact E_ret rfl (pg_mt_md (by decide)) rfl hr

-- 234: ThreePlatesModel.isFlat(I)Z
def dn234 (o : xH × Option Value) (r : xS × Int32) : Prop := o = (hk_of r.1, some (.int r.2))
def dn234_2 (sc : Option (Nat × (Nat → Int32))) (x0 : Nat) (x1 : Int32) (o : xH × Option Value) (r : ((Int32 × xS) ⊕ (xS × Int32))) : Prop := match r with
  | .inl q => Ev sc 6 234 [] 2 [some (.ref x0), some (.int x1), some (.int q.1)] [] (hk_of q.2) o
  | .inr r => dn234 o r
noncomputable def f234_2 (x0 : Nat) (x1 : Int32) (x2 : Int32) (s : xS) : Option ((Int32 × xS) ⊕ (xS × Int32)) := (hk_R x0 12).bind fun a1 => (aI s a1 (s.1 x0 25)).bind fun v3 => if v3 ≤ x2 then (Option.map Sum.inr (some (s, (1 : Int32)))) else ((f232 x0 x2 s).bind fun z6 => (f223 x0 z6.1).bind fun z8 => if (lg_cmp z8.2 ((z8.1.2 x0 45) * x1.toInt64)) ≤ 0 then (some (Sum.inl ((x2 + (1 : Int32)), z8.1))) else (Option.map Sum.inr (some (z8.1, (0 : Int32)))))
set_option maxRecDepth 20000 in
theorem s234_2 {sc : Option (Nat × (Nat → Int32))} {x0 : Nat} {x1 : Int32} {x2 : Int32} {s : xS} {o : xH × Option Value} {r : ((Int32 × xS) ⊕ (xS × Int32))} (k0 : oK x0 12 = true) (h : f234_2 x0 x1 x2 s = some r) (hr : dn234_2 sc x0 x1 o r) : Ev sc 6 234 [] 2 [some (.ref x0), some (.int x1), some (.int x2)] [] (hk_of s) o := by
  unfold f234_2 at h
  refine E_blk rfl ?_
  refine E_ps 2 (pc' := 4) (l' := [some (.ref x0), some (.int x1), some (.int x2)]) (st' := [.ref x0, .int x2]) rfl ?_
  obtain ⟨a1, e2, h⟩ := Option.bind_eq_some_iff.mp h
  refine E_gr k0 (by decide) rfl e2 ?_
  refine E_ps 1 (pc' := 8) (l' := [some (.ref x0), some (.int x1), some (.int x2)]) (st' := [.ref x0, .ref a1, .int x2]) rfl ?_
  refine E_gi k0 (by decide) rfl ?_
  obtain ⟨v3, e4, h⟩ := Option.bind_eq_some_iff.mp h
  refine E_ai e4 ?_
  by_cases c5 : v3 ≤ x2
  · rw [if_pos c5] at h
    refine E_jt rfl rfl c5 ?_
    obtain ⟨r, h, hr⟩ := lf_some (Dn := dn234_2 sc x0 x1 o) h hr
    refine E_blk rfl ?_
    refine E_ps 1 (pc' := 44) (l' := [some (.ref x0), some (.int x1), some (.int x2)]) (st' := [.int (1 : Int32)]) rfl ?_
    cases h
    exact E_ret rfl (pg_mt_md (by decide)) rfl hr
  · rw [if_neg c5] at h
    refine E_jf rfl rfl c5 ?_
    refine E_blk rfl ?_
    refine E_ps 2 (pc' := 17) (l' := [some (.ref x0), some (.int x1), some (.int x2)]) (st' := [.int x2, .ref x0]) rfl ?_
    obtain ⟨z6, e7, h⟩ := Option.bind_eq_some_iff.mp h
    refine E_callV (vs := [.ref x0, .int x2]) (rest := []) rfl (by decide) rfl rfl (Nat.le_of_ble_eq_true rfl) (s232 e7) (by decide) ?_
    refine E_ps 1 (pc' := 21) (l' := [some (.ref x0), some (.int x1), some (.int x2)]) (st' := [.ref x0]) rfl ?_
    obtain ⟨z8, e9, h⟩ := Option.bind_eq_some_iff.mp h
    refine E_callL (vs := [.ref x0]) (rest := []) rfl (by decide) rfl rfl (Nat.le_of_ble_eq_true rfl) (s223 e9) (by decide) ?_
    refine E_ps 1 (pc' := 25) (l' := [some (.ref x0), some (.int x1), some (.int x2)]) (st' := [.ref x0, .long z8.2]) rfl ?_
    refine E_gl k0 (by decide) rfl ?_
    refine E_ps 4 (pc' := 32) (l' := [some (.ref x0), some (.int x1), some (.int x2)]) (st' := [.int (lg_cmp z8.2 ((z8.1.2 x0 45) * x1.toInt64))]) rfl ?_
    by_cases c10 : (lg_cmp z8.2 ((z8.1.2 x0 45) * x1.toInt64)) ≤ 0
    · rw [if_pos c10] at h
      refine E_jt rfl rfl c10 ?_
      refine E_blk rfl ?_
      refine E_ps 1 (pc' := 40) (l' := [some (.ref x0), some (.int x1), some (.int (x2 + (1 : Int32)))]) (st' := []) rfl ?_
      refine E_j rfl rfl ?_
      cases h
      exact E_wk (l' := [some (.ref x0), some (.int x1), some (.int (x2 + (1 : Int32)))]) ⟨rfl, rfl, rfl, trivial⟩ hr
    · rw [if_neg c10] at h
      refine E_jf rfl rfl c10 ?_
      obtain ⟨r, h, hr⟩ := lf_some (Dn := dn234_2 sc x0 x1 o) h hr
      refine E_blk rfl ?_
      refine E_ps 1 (pc' := 36) (l' := [some (.ref x0), some (.int x1), some (.int x2)]) (st' := [.int (0 : Int32)]) rfl ?_
      cases h
      exact E_ret rfl (pg_mt_md (by decide)) rfl hr
theorem s234_2_w {sc : Option (Nat × (Nat → Int32))} {x0 : Nat} {x1 : Int32} {x2 : Int32} {s : xS} {o : xH × Option Value} {r : (xS × Int32)} (k0 : oK x0 12 = true) (h : whl (fun q : (Int32 × xS) => f234_2 x0 x1 q.1 q.2) (x2, s) = some r) (hr : dn234 o r) : Ev sc 6 234 [] 2 [some (.ref x0), some (.int x1), some (.int x2)] [] (hk_of s) o := by
  refine whl_snd (E := fun q : (Int32 × xS) => Ev sc 6 234 [] 2 [some (.ref x0), some (.int x1), some (.int q.1)] [] (hk_of q.2) o) (P := fun r => dn234 o r) (fun q r h hr => ?_) h hr
  exact s234_2 k0 h (by cases r <;> exact hr)
noncomputable def f234 (x0 : Nat) (x1 : Int32) (s : xS) : Option (xS × Int32) := ifg (oK x0 12 = true) <| whl (fun q : (Int32 × xS) => f234_2 x0 x1 q.1 q.2) ((0 : Int32), s)
set_option maxRecDepth 20000 in
theorem s234 {sc : Option (Nat × (Nat → Int32))} {x0 : Nat} {x1 : Int32} {s : xS} {r : xS × Int32} (h : f234 x0 x1 s = some r) : Cl sc 6 234 [.ref x0, .int x1] (hk_of s) (hk_of r.1, some (.int r.2)) := by
  unfold f234 at h
  obtain ⟨k0, h⟩ := ifg_some h
  refine ⟨pg_md 234, [some (.ref x0), some (.int x1), none], pg_mt_md (by decide), (hk_rcv k0), rfl, ?_⟩
  generalize ho : ((hk_of r.1, some (Value.int r.2)) : xH × Option Value) = o
  have hr : dn234 o r := ho.symm
  refine E_blk rfl ?_
  refine E_ps 2 (pc' := 2) (l' := [some (.ref x0), some (.int x1), some (.int (0 : Int32))]) (st' := []) rfl ?_
  exact E_wk (l' := [some (.ref x0), some (.int x1), some (.int (0 : Int32))]) ⟨rfl, rfl, rfl, trivial⟩ (s234_2_w k0 h hr)

-- 235: ThreePlatesModel.flat(I)I
def dn235 (o : xH × Option Value) (r : xS × Int32) : Prop := o = (hk_of r.1, some (.int r.2))
noncomputable def f235_28 (y0 : Int32) (s : xS) : Option (xS × Int32) := some (s, y0)
set_option maxRecDepth 20000 in
theorem s235_28 {sc : Option (Nat × (Nat → Int32))} {y0 : Int32} {s : xS} {o : xH × Option Value} {r : (xS × Int32)}  (h : f235_28 y0 s = some r) (hr : dn235 o r) : Ev sc 7 235 [] 28 [none, none] [.int y0] (hk_of s) o := by
  unfold f235_28 at h
  refine E_blk rfl ?_
  cases h
  exact E_ret rfl (pg_mt_md (by decide)) rfl hr
noncomputable def f235 (x0 : Nat) (x1 : Int32) (s : xS) : Option (xS × Int32) := ifg (oK x0 12 = true) <| (f195 x1 (0 : Int32) (999 : Int32) s).bind fun z1 => if z1.2 = 0 then (f235_28 (-1 : Int32) z1.1) else ((f234 x0 x1 z1.1).bind fun z4 => if z4.2 = 0 then (f235_28 (0 : Int32) z4.1) else (f235_28 (1 : Int32) z4.1))
set_option maxRecDepth 20000 in
theorem s235 {sc : Option (Nat × (Nat → Int32))} {x0 : Nat} {x1 : Int32} {s : xS} {r : xS × Int32} (h : f235 x0 x1 s = some r) : Cl sc 7 235 [.ref x0, .int x1] (hk_of s) (hk_of r.1, some (.int r.2)) := by
  unfold f235 at h
  obtain ⟨k0, h⟩ := ifg_some h
  refine ⟨pg_md 235, [some (.ref x0), some (.int x1)], pg_mt_md (by decide), (hk_rcv k0), rfl, ?_⟩
  generalize ho : ((hk_of r.1, some (Value.int r.2)) : xH × Option Value) = o
  have hr : dn235 o r := ho.symm
  refine E_blk rfl ?_
  refine E_ps 3 (pc' := 5) (l' := [some (.ref x0), some (.int x1)]) (st' := [.int (999 : Int32), .int (0 : Int32), .int x1]) rfl ?_
  obtain ⟨z1, e2, h⟩ := Option.bind_eq_some_iff.mp h
  refine E_callI (vs := [.int x1, .int (0 : Int32), .int (999 : Int32)]) (rest := []) rfl (by decide) rfl rfl (Nat.le_of_ble_eq_true rfl) (s195 e2) (by decide) ?_
  by_cases c3 : z1.2 = 0
  · rw [if_pos c3] at h
    refine E_jt rfl rfl c3 ?_
    refine E_blk rfl ?_
    refine E_ps 1 (pc' := 12) (l' := [some (.ref x0), some (.int x1)]) (st' := [.int (-1 : Int32)]) rfl ?_
    refine E_j rfl rfl ?_
    exact E_wk (l' := [none, none]) trivial (s235_28  h hr)
  · rw [if_neg c3] at h
    refine E_jf rfl rfl c3 ?_
    refine E_blk rfl ?_
    refine E_ps 2 (pc' := 17) (l' := [some (.ref x0), some (.int x1)]) (st' := [.int x1, .ref x0]) rfl ?_
    obtain ⟨z4, e5, h⟩ := Option.bind_eq_some_iff.mp h
    refine E_callI (vs := [.ref x0, .int x1]) (rest := []) rfl (by decide) rfl rfl (Nat.le_of_ble_eq_true rfl) (s234 e5) (by decide) ?_
    by_cases c6 : z4.2 = 0
    · rw [if_pos c6] at h
      refine E_jt rfl rfl c6 ?_
      refine E_blk rfl ?_
      refine E_ps 1 (pc' := 28) (l' := [some (.ref x0), some (.int x1)]) (st' := [.int (0 : Int32)]) rfl ?_
      exact E_wk (l' := [none, none]) trivial (s235_28  h hr)
    · rw [if_neg c6] at h
      refine E_jf rfl rfl c6 ?_
      refine E_blk rfl ?_
      refine E_ps 1 (pc' := 24) (l' := [some (.ref x0), some (.int x1)]) (st' := [.int (1 : Int32)]) rfl ?_
      refine E_j rfl rfl ?_
      exact E_wk (l' := [none, none]) trivial (s235_28  h hr)

-- 236: ThreePlatesModel.warmer(II)V
def dn236 (o : xH × Option Value) (r : xS × Unit) : Prop := o = (hk_of r.1, none)
noncomputable def f236_31 (y0 : Int32) (y1 : Int32) (y2 : Nat) (s : xS) : Option (xS × Unit) := (wI s y2 y1 y0).bind fun t1 => some (t1, ())
set_option maxRecDepth 20000 in
theorem s236_31 {sc : Option (Nat × (Nat → Int32))} {y0 : Int32} {y1 : Int32} {y2 : Nat} {s : xS} {o : xH × Option Value} {r : (xS × Unit)}  (h : f236_31 y0 y1 y2 s = some r) (hr : dn236 o r) : Ev sc 1 236 [] 31 [none, none, none] [.int y0, .int y1, .ref y2] (hk_of s) o := by
  unfold f236_31 at h
  refine E_blk rfl ?_
  obtain ⟨t1, e2, h⟩ := Option.bind_eq_some_iff.mp h
  refine E_wi e2 ?_
  cases h
  exact E_ret rfl (pg_mt_md (by decide)) rfl hr
noncomputable def f236 (x0 : Nat) (x1 : Int32) (x2 : Int32) (s : xS) : Option (xS × Unit) := ifg (oK x0 12 = true) <| (hk_R x0 21).bind fun a1 => (hk_R x0 21).bind fun a3 => (aI s a3 x1).bind fun v5 => if (v5 + x2) ≤ (99 : Int32) then ((hk_R x0 21).bind fun a8 => (aI s a8 x1).bind fun v10 => f236_31 (v10 + x2) x1 a1 s) else (f236_31 (99 : Int32) x1 a1 s)
set_option maxRecDepth 20000 in
theorem s236 {sc : Option (Nat × (Nat → Int32))} {x0 : Nat} {x1 : Int32} {x2 : Int32} {s : xS} {r : xS × Unit} (h : f236 x0 x1 x2 s = some r) : Cl sc 1 236 [.ref x0, .int x1, .int x2] (hk_of s) (hk_of r.1, none) := by
  unfold f236 at h
  obtain ⟨k0, h⟩ := ifg_some h
  refine ⟨pg_md 236, [some (.ref x0), some (.int x1), some (.int x2)], pg_mt_md (by decide), (hk_rcv k0), rfl, ?_⟩
  generalize ho : ((hk_of r.1, none) : xH × Option Value) = o
  have hr : dn236 o r := ho.symm
  refine E_blk rfl ?_
  refine E_ps 1 (pc' := 1) (l' := [some (.ref x0), some (.int x1), some (.int x2)]) (st' := [.ref x0]) rfl ?_
  obtain ⟨a1, e2, h⟩ := Option.bind_eq_some_iff.mp h
  refine E_gr k0 (by decide) rfl e2 ?_
  refine E_ps 2 (pc' := 6) (l' := [some (.ref x0), some (.int x1), some (.int x2)]) (st' := [.ref x0, .int x1, .ref a1]) rfl ?_
  obtain ⟨a3, e4, h⟩ := Option.bind_eq_some_iff.mp h
  refine E_gr k0 (by decide) rfl e4 ?_
  refine E_ps 1 (pc' := 10) (l' := [some (.ref x0), some (.int x1), some (.int x2)]) (st' := [.int x1, .ref a3, .int x1, .ref a1]) rfl ?_
  obtain ⟨v5, e6, h⟩ := Option.bind_eq_some_iff.mp h
  refine E_ai e6 ?_
  refine E_ps 3 (pc' := 15) (l' := [some (.ref x0), some (.int x1), some (.int x2)]) (st' := [.int (99 : Int32), .int (v5 + x2), .int x1, .ref a1]) rfl ?_
  by_cases c7 : (v5 + x2) ≤ (99 : Int32)
  · rw [if_pos c7] at h
    refine E_jt rfl rfl c7 ?_
    refine E_blk rfl ?_
    refine E_ps 1 (pc' := 24) (l' := [some (.ref x0), some (.int x1), some (.int x2)]) (st' := [.ref x0, .int x1, .ref a1]) rfl ?_
    obtain ⟨a8, e9, h⟩ := Option.bind_eq_some_iff.mp h
    refine E_gr k0 (by decide) rfl e9 ?_
    refine E_ps 1 (pc' := 28) (l' := [some (.ref x0), some (.int x1), some (.int x2)]) (st' := [.int x1, .ref a8, .int x1, .ref a1]) rfl ?_
    obtain ⟨v10, e11, h⟩ := Option.bind_eq_some_iff.mp h
    refine E_ai e11 ?_
    refine E_ps 2 (pc' := 31) (l' := [some (.ref x0), some (.int x1), some (.int x2)]) (st' := [.int (v10 + x2), .int x1, .ref a1]) rfl ?_
    exact E_wk (l' := [none, none, none]) trivial (s236_31  h hr)
  · rw [if_neg c7] at h
    refine E_jf rfl rfl c7 ?_
    refine E_blk rfl ?_
    refine E_ps 1 (pc' := 20) (l' := [some (.ref x0), some (.int x1), some (.int x2)]) (st' := [.int (99 : Int32), .int x1, .ref a1]) rfl ?_
    refine E_j rfl rfl ?_
    exact E_wk (l' := [none, none, none]) trivial (s236_31  h hr)

-- 237: ThreePlatesModel.warm(III)Z
def dn237 (o : xH × Option Value) (r : xS × Int32) : Prop := o = (hk_of r.1, some (.int r.2))
noncomputable def f237_134  (s : xS) : Option (xS × Int32) := some (s, (1 : Int32))
set_option maxRecDepth 20000 in
theorem s237_134 {sc : Option (Nat × (Nat → Int32))}  {s : xS} {o : xH × Option Value} {r : (xS × Int32)}  (h : f237_134  s = some r) (hr : dn237 o r) : Ev sc 4 237 [] 134 [none, none, none, none, none, none, none] [] (hk_of s) o := by
  unfold f237_134 at h
  refine E_blk rfl ?_
  refine E_ps 1 (pc' := 135) (l' := [none, none, none, none, none, none, none]) (st' := [.int (1 : Int32)]) rfl ?_
  cases h
  exact E_ret rfl (pg_mt_md (by decide)) rfl hr
noncomputable def f237_109 (x0 : Nat) (x3 : Int32) (x5 : Int32) (x6 : Int32) (s : xS) : Option (xS × Int32) := (f196 x0 s).bind fun z1 => if (z1.2 - (1 : Int32)) ≤ x5 then (f237_134  z1.1) else ((f196 x0 z1.1).bind fun z4 => (f236 x0 (x6 + z4.2) (x3 / (2 : Int32)) z4.1).bind fun z6 => f237_134  z6.1)
set_option maxRecDepth 20000 in
theorem s237_109 {sc : Option (Nat × (Nat → Int32))} {x0 : Nat} {x3 : Int32} {x5 : Int32} {x6 : Int32} {s : xS} {o : xH × Option Value} {r : (xS × Int32)} (k0 : oK x0 12 = true) (h : f237_109 x0 x3 x5 x6 s = some r) (hr : dn237 o r) : Ev sc 4 237 [] 109 [some (.ref x0), none, none, some (.int x3), none, some (.int x5), some (.int x6)] [] (hk_of s) o := by
  unfold f237_109 at h
  refine E_blk rfl ?_
  refine E_ps 2 (pc' := 112) (l' := [some (.ref x0), none, none, some (.int x3), none, some (.int x5), some (.int x6)]) (st' := [.ref x0, .int x5]) rfl ?_
  obtain ⟨z1, e2, h⟩ := Option.bind_eq_some_iff.mp h
  refine E_callI (vs := [.ref x0]) (rest := [.int x5]) rfl (by decide) rfl rfl (Nat.le_of_ble_eq_true rfl) (s196 e2) (by decide) ?_
  refine E_ps 2 (pc' := 117) (l' := [some (.ref x0), none, none, some (.int x3), none, some (.int x5), some (.int x6)]) (st' := [.int (z1.2 - (1 : Int32)), .int x5]) rfl ?_
  by_cases c3 : (z1.2 - (1 : Int32)) ≤ x5
  · rw [if_pos c3] at h
    refine E_jt rfl rfl c3 ?_
    exact E_wk (l' := [none, none, none, none, none, none, none]) trivial (s237_134  h hr)
  · rw [if_neg c3] at h
    refine E_jf rfl rfl c3 ?_
    refine E_blk rfl ?_
    refine E_ps 3 (pc' := 124) (l' := [some (.ref x0), none, none, some (.int x3), none, some (.int x5), some (.int x6)]) (st' := [.ref x0, .int x6, .ref x0]) rfl ?_
    obtain ⟨z4, e5, h⟩ := Option.bind_eq_some_iff.mp h
    refine E_callI (vs := [.ref x0]) (rest := [.int x6, .ref x0]) rfl (by decide) rfl rfl (Nat.le_of_ble_eq_true rfl) (s196 e5) (by decide) ?_
    refine E_ps 3 (pc' := 130) (l' := [some (.ref x0), none, none, some (.int x3), none, some (.int x5), some (.int x6)]) (st' := [.int (2 : Int32), .int x3, .int (x6 + z4.2), .ref x0]) rfl ?_
    refine E_idiv (by decide) ?_
    obtain ⟨z6, e7, h⟩ := Option.bind_eq_some_iff.mp h
    refine E_callV (vs := [.ref x0, .int (x6 + z4.2), .int (x3 / (2 : Int32))]) (rest := []) rfl (by decide) rfl rfl (Nat.le_of_ble_eq_true rfl) (s236 e7) (by decide) ?_
    exact E_wk (l' := [none, none, none, none, none, none, none]) trivial (s237_134  h hr)
noncomputable def f237_90 (x0 : Nat) (x3 : Int32) (x5 : Int32) (x6 : Int32) (s : xS) : Option (xS × Int32) := if x5 ≤ 0 then (f237_109 x0 x3 x5 x6 s) else ((f196 x0 s).bind fun z2 => (f236 x0 (x6 - z2.2) (x3 / (2 : Int32)) z2.1).bind fun z4 => f237_109 x0 x3 x5 x6 z4.1)
set_option maxRecDepth 20000 in
theorem s237_90 {sc : Option (Nat × (Nat → Int32))} {x0 : Nat} {x3 : Int32} {x5 : Int32} {x6 : Int32} {s : xS} {o : xH × Option Value} {r : (xS × Int32)} (k0 : oK x0 12 = true) (h : f237_90 x0 x3 x5 x6 s = some r) (hr : dn237 o r) : Ev sc 4 237 [] 90 [some (.ref x0), none, none, some (.int x3), none, some (.int x5), some (.int x6)] [] (hk_of s) o := by
  unfold f237_90 at h
  refine E_blk rfl ?_
  refine E_ps 1 (pc' := 92) (l' := [some (.ref x0), none, none, some (.int x3), none, some (.int x5), some (.int x6)]) (st' := [.int x5]) rfl ?_
  by_cases c1 : x5 ≤ 0
  · rw [if_pos c1] at h
    refine E_jt rfl rfl c1 ?_
    exact E_wk (l' := [some (.ref x0), none, none, some (.int x3), none, some (.int x5), some (.int x6)]) ⟨rfl, rfl, rfl, rfl, trivial⟩ (s237_109 k0 h hr)
  · rw [if_neg c1] at h
    refine E_jf rfl rfl c1 ?_
    refine E_blk rfl ?_
    refine E_ps 3 (pc' := 99) (l' := [some (.ref x0), none, none, some (.int x3), none, some (.int x5), some (.int x6)]) (st' := [.ref x0, .int x6, .ref x0]) rfl ?_
    obtain ⟨z2, e3, h⟩ := Option.bind_eq_some_iff.mp h
    refine E_callI (vs := [.ref x0]) (rest := [.int x6, .ref x0]) rfl (by decide) rfl rfl (Nat.le_of_ble_eq_true rfl) (s196 e3) (by decide) ?_
    refine E_ps 3 (pc' := 105) (l' := [some (.ref x0), none, none, some (.int x3), none, some (.int x5), some (.int x6)]) (st' := [.int (2 : Int32), .int x3, .int (x6 - z2.2), .ref x0]) rfl ?_
    refine E_idiv (by decide) ?_
    obtain ⟨z4, e5, h⟩ := Option.bind_eq_some_iff.mp h
    refine E_callV (vs := [.ref x0, .int (x6 - z2.2), .int (x3 / (2 : Int32))]) (rest := []) rfl (by decide) rfl rfl (Nat.le_of_ble_eq_true rfl) (s236 e5) (by decide) ?_
    exact E_wk (l' := [some (.ref x0), none, none, some (.int x3), none, some (.int x5), some (.int x6)]) ⟨rfl, rfl, rfl, rfl, trivial⟩ (s237_109 k0 h hr)
noncomputable def f237_68 (x0 : Nat) (x3 : Int32) (x4 : Int32) (x5 : Int32) (x6 : Int32) (s : xS) : Option (xS × Int32) := (f196 x0 s).bind fun z1 => if (z1.2 - (1 : Int32)) ≤ x4 then (f237_90 x0 x3 x5 x6 z1.1) else ((f236 x0 (x6 + (1 : Int32)) (x3 / (2 : Int32)) z1.1).bind fun z4 => f237_90 x0 x3 x5 x6 z4.1)
set_option maxRecDepth 20000 in
theorem s237_68 {sc : Option (Nat × (Nat → Int32))} {x0 : Nat} {x3 : Int32} {x4 : Int32} {x5 : Int32} {x6 : Int32} {s : xS} {o : xH × Option Value} {r : (xS × Int32)} (k0 : oK x0 12 = true) (h : f237_68 x0 x3 x4 x5 x6 s = some r) (hr : dn237 o r) : Ev sc 4 237 [] 68 [some (.ref x0), none, none, some (.int x3), some (.int x4), some (.int x5), some (.int x6)] [] (hk_of s) o := by
  unfold f237_68 at h
  refine E_blk rfl ?_
  refine E_ps 2 (pc' := 71) (l' := [some (.ref x0), none, none, some (.int x3), some (.int x4), some (.int x5), some (.int x6)]) (st' := [.ref x0, .int x4]) rfl ?_
  obtain ⟨z1, e2, h⟩ := Option.bind_eq_some_iff.mp h
  refine E_callI (vs := [.ref x0]) (rest := [.int x4]) rfl (by decide) rfl rfl (Nat.le_of_ble_eq_true rfl) (s196 e2) (by decide) ?_
  refine E_ps 2 (pc' := 76) (l' := [some (.ref x0), none, none, some (.int x3), some (.int x4), some (.int x5), some (.int x6)]) (st' := [.int (z1.2 - (1 : Int32)), .int x4]) rfl ?_
  by_cases c3 : (z1.2 - (1 : Int32)) ≤ x4
  · rw [if_pos c3] at h
    refine E_jt rfl rfl c3 ?_
    exact E_wk (l' := [some (.ref x0), none, none, some (.int x3), none, some (.int x5), some (.int x6)]) ⟨rfl, rfl, rfl, rfl, trivial⟩ (s237_90 k0 h hr)
  · rw [if_neg c3] at h
    refine E_jf rfl rfl c3 ?_
    refine E_blk rfl ?_
    refine E_ps 6 (pc' := 86) (l' := [some (.ref x0), none, none, some (.int x3), some (.int x4), some (.int x5), some (.int x6)]) (st' := [.int (2 : Int32), .int x3, .int (x6 + (1 : Int32)), .ref x0]) rfl ?_
    refine E_idiv (by decide) ?_
    obtain ⟨z4, e5, h⟩ := Option.bind_eq_some_iff.mp h
    refine E_callV (vs := [.ref x0, .int (x6 + (1 : Int32)), .int (x3 / (2 : Int32))]) (rest := []) rfl (by decide) rfl rfl (Nat.le_of_ble_eq_true rfl) (s236 e5) (by decide) ?_
    exact E_wk (l' := [some (.ref x0), none, none, some (.int x3), none, some (.int x5), some (.int x6)]) ⟨rfl, rfl, rfl, rfl, trivial⟩ (s237_90 k0 h hr)
noncomputable def f237_19  (s : xS) : Option (xS × Int32) := some (s, (0 : Int32))
set_option maxRecDepth 20000 in
theorem s237_19 {sc : Option (Nat × (Nat → Int32))}  {s : xS} {o : xH × Option Value} {r : (xS × Int32)}  (h : f237_19  s = some r) (hr : dn237 o r) : Ev sc 4 237 [] 19 [none, none, none, none, none, none, none] [] (hk_of s) o := by
  unfold f237_19 at h
  refine E_blk rfl ?_
  refine E_ps 1 (pc' := 20) (l' := [none, none, none, none, none, none, none]) (st' := [.int (0 : Int32)]) rfl ?_
  cases h
  exact E_ret rfl (pg_mt_md (by decide)) rfl hr
noncomputable def f237 (x0 : Nat) (x1 : Int32) (x2 : Int32) (x3 : Int32) (s : xS) : Option (xS × Int32) := ifg (oK x0 12 = true) <| (f199 x0 x1 x2 s).bind fun z1 => if z1.2 = 0 then (f237_19  z1.1) else ((f195 x3 (1 : Int32) (20 : Int32) z1.1).bind fun z4 => if z4.2 = 0 then (f237_19  z4.1) else ((f196 x0 z4.1).bind fun z7 => ifg (¬ z7.2 = 0) <| (f196 x0 z7.1).bind fun z10 => ifg (¬ z10.2 = 0) <| (f236 x0 (((25 : Int32) * x1) + x2) x3 z10.1).bind fun z13 => if (irm x2 z7.2) ≤ 0 then (f237_68 x0 x3 (irm x2 z7.2) (x2 / z10.2) (((25 : Int32) * x1) + x2) z13.1) else ((f236 x0 ((((25 : Int32) * x1) + x2) - (1 : Int32)) (x3 / (2 : Int32)) z13.1).bind fun z16 => f237_68 x0 x3 (irm x2 z7.2) (x2 / z10.2) (((25 : Int32) * x1) + x2) z16.1)))
set_option maxRecDepth 20000 in
theorem s237 {sc : Option (Nat × (Nat → Int32))} {x0 : Nat} {x1 : Int32} {x2 : Int32} {x3 : Int32} {s : xS} {r : xS × Int32} (h : f237 x0 x1 x2 x3 s = some r) : Cl sc 4 237 [.ref x0, .int x1, .int x2, .int x3] (hk_of s) (hk_of r.1, some (.int r.2)) := by
  unfold f237 at h
  obtain ⟨k0, h⟩ := ifg_some h
  refine ⟨pg_md 237, [some (.ref x0), some (.int x1), some (.int x2), some (.int x3), none, none, none], pg_mt_md (by decide), (hk_rcv k0), rfl, ?_⟩
  generalize ho : ((hk_of r.1, some (Value.int r.2)) : xH × Option Value) = o
  have hr : dn237 o r := ho.symm
  refine E_blk rfl ?_
  refine E_ps 3 (pc' := 3) (l' := [some (.ref x0), some (.int x1), some (.int x2), some (.int x3), none, none, none]) (st' := [.int x2, .int x1, .ref x0]) rfl ?_
  obtain ⟨z1, e2, h⟩ := Option.bind_eq_some_iff.mp h
  refine E_callI (vs := [.ref x0, .int x1, .int x2]) (rest := []) rfl (by decide) rfl rfl (Nat.le_of_ble_eq_true rfl) (s199 e2) (by decide) ?_
  by_cases c3 : z1.2 = 0
  · rw [if_pos c3] at h
    refine E_jt rfl rfl c3 ?_
    exact E_wk (l' := [none, none, none, none, none, none, none]) trivial (s237_19  h hr)
  · rw [if_neg c3] at h
    refine E_jf rfl rfl c3 ?_
    refine E_blk rfl ?_
    refine E_ps 3 (pc' := 13) (l' := [some (.ref x0), some (.int x1), some (.int x2), some (.int x3), none, none, none]) (st' := [.int (20 : Int32), .int (1 : Int32), .int x3]) rfl ?_
    obtain ⟨z4, e5, h⟩ := Option.bind_eq_some_iff.mp h
    refine E_callI (vs := [.int x3, .int (1 : Int32), .int (20 : Int32)]) (rest := []) rfl (by decide) rfl rfl (Nat.le_of_ble_eq_true rfl) (s195 e5) (by decide) ?_
    by_cases c6 : z4.2 = 0
    · rw [if_pos c6] at h
      refine E_jt rfl rfl c6 ?_
      exact E_wk (l' := [none, none, none, none, none, none, none]) trivial (s237_19  h hr)
    · rw [if_neg c6] at h
      refine E_jf rfl rfl c6 ?_
      refine E_blk rfl ?_
      refine E_ps 2 (pc' := 23) (l' := [some (.ref x0), some (.int x1), some (.int x2), some (.int x3), none, none, none]) (st' := [.ref x0, .int x2]) rfl ?_
      obtain ⟨z7, e8, h⟩ := Option.bind_eq_some_iff.mp h
      refine E_callI (vs := [.ref x0]) (rest := [.int x2]) rfl (by decide) rfl rfl (Nat.le_of_ble_eq_true rfl) (s196 e8) (by decide) ?_
      obtain ⟨g9, h⟩ := ifg_some h
      refine E_irem g9 ?_
      refine E_ps 3 (pc' := 31) (l' := [some (.ref x0), some (.int x1), some (.int x2), some (.int x3), some (.int (irm x2 z7.2)), none, none]) (st' := [.ref x0, .int x2]) rfl ?_
      obtain ⟨z10, e11, h⟩ := Option.bind_eq_some_iff.mp h
      refine E_callI (vs := [.ref x0]) (rest := [.int x2]) rfl (by decide) rfl rfl (Nat.le_of_ble_eq_true rfl) (s196 e11) (by decide) ?_
      obtain ⟨g12, h⟩ := ifg_some h
      refine E_idiv g12 ?_
      refine E_ps 10 (pc' := 49) (l' := [some (.ref x0), some (.int x1), some (.int x2), some (.int x3), some (.int (irm x2 z7.2)), some (.int (x2 / z10.2)), some (.int (((25 : Int32) * x1) + x2))]) (st' := [.int x3, .int (((25 : Int32) * x1) + x2), .ref x0]) rfl ?_
      obtain ⟨z13, e14, h⟩ := Option.bind_eq_some_iff.mp h
      refine E_callV (vs := [.ref x0, .int (((25 : Int32) * x1) + x2), .int x3]) (rest := []) rfl (by decide) rfl rfl (Nat.le_of_ble_eq_true rfl) (s236 e14) (by decide) ?_
      refine E_ps 1 (pc' := 54) (l' := [some (.ref x0), some (.int x1), some (.int x2), some (.int x3), some (.int (irm x2 z7.2)), some (.int (x2 / z10.2)), some (.int (((25 : Int32) * x1) + x2))]) (st' := [.int (irm x2 z7.2)]) rfl ?_
      by_cases c15 : (irm x2 z7.2) ≤ 0
      · rw [if_pos c15] at h
        refine E_jt rfl rfl c15 ?_
        exact E_wk (l' := [some (.ref x0), none, none, some (.int x3), some (.int (irm x2 z7.2)), some (.int (x2 / z10.2)), some (.int (((25 : Int32) * x1) + x2))]) ⟨rfl, rfl, rfl, rfl, rfl, trivial⟩ (s237_68 k0 h hr)
      · rw [if_neg c15] at h
        refine E_jf rfl rfl c15 ?_
        refine E_blk rfl ?_
        refine E_ps 6 (pc' := 64) (l' := [some (.ref x0), some (.int x1), some (.int x2), some (.int x3), some (.int (irm x2 z7.2)), some (.int (x2 / z10.2)), some (.int (((25 : Int32) * x1) + x2))]) (st' := [.int (2 : Int32), .int x3, .int ((((25 : Int32) * x1) + x2) - (1 : Int32)), .ref x0]) rfl ?_
        refine E_idiv (by decide) ?_
        obtain ⟨z16, e17, h⟩ := Option.bind_eq_some_iff.mp h
        refine E_callV (vs := [.ref x0, .int ((((25 : Int32) * x1) + x2) - (1 : Int32)), .int (x3 / (2 : Int32))]) (rest := []) rfl (by decide) rfl rfl (Nat.le_of_ble_eq_true rfl) (s236 e17) (by decide) ?_
        exact E_wk (l' := [some (.ref x0), none, none, some (.int x3), some (.int (irm x2 z7.2)), some (.int (x2 / z10.2)), some (.int (((25 : Int32) * x1) + x2))]) ⟨rfl, rfl, rfl, rfl, rfl, trivial⟩ (s237_68 k0 h hr)

-- 238: ThreePlatesModel.rest(I)Z
def dn238 (o : xH × Option Value) (r : xS × Int32) : Prop := o = (hk_of r.1, some (.int r.2))
def dn238_15 (sc : Option (Nat × (Nat → Int32))) (x0 : Nat) (x1 : Int32) (o : xH × Option Value) (r : ((Int32 × xS) ⊕ (xS × Int32))) : Prop := match r with
  | .inl q => Ev sc 2 238 [] 15 [some (.ref x0), some (.int x1), some (.int q.1)] [] (hk_of q.2) o
  | .inr r => dn238 o r
noncomputable def f238_48 (x0 : Nat) (x1 : Int32) (x2 : Int32) (y0 : Int32) (y1 : Int32) (y2 : Nat) (s : xS) : Option ((Int32 × xS) ⊕ (xS × Int32)) := (wI s y2 y1 y0).bind fun t1 => some (Sum.inl ((x2 + (1 : Int32)), t1))
set_option maxRecDepth 20000 in
theorem s238_48 {sc : Option (Nat × (Nat → Int32))} {x0 : Nat} {x1 : Int32} {x2 : Int32} {y0 : Int32} {y1 : Int32} {y2 : Nat} {s : xS} {o : xH × Option Value} {r : ((Int32 × xS) ⊕ (xS × Int32))} (k0 : oK x0 12 = true) (h : f238_48 x0 x1 x2 y0 y1 y2 s = some r) (hr : dn238_15 sc x0 x1 o r) : Ev sc 2 238 [] 48 [some (.ref x0), some (.int x1), some (.int x2)] [.int y0, .int y1, .ref y2] (hk_of s) o := by
  unfold f238_48 at h
  refine E_blk rfl ?_
  obtain ⟨t1, e2, h⟩ := Option.bind_eq_some_iff.mp h
  refine E_wi e2 ?_
  refine E_ps 1 (pc' := 52) (l' := [some (.ref x0), some (.int x1), some (.int (x2 + (1 : Int32)))]) (st' := []) rfl ?_
  refine E_j rfl rfl ?_
  cases h
  exact E_wk (l' := [some (.ref x0), some (.int x1), some (.int (x2 + (1 : Int32)))]) ⟨rfl, rfl, rfl, trivial⟩ hr
noncomputable def f238_15 (x0 : Nat) (x1 : Int32) (x2 : Int32) (s : xS) : Option ((Int32 × xS) ⊕ (xS × Int32)) := if (100 : Int32) ≤ x2 then (Option.map Sum.inr (some (s, (1 : Int32)))) else ((hk_R x0 21).bind fun a2 => (hk_R x0 21).bind fun a4 => (aI s a4 x2).bind fun v6 => if v6 ≤ x1 then (f238_48 x0 x1 x2 (0 : Int32) x2 a2 s) else ((hk_R x0 21).bind fun a9 => (aI s a9 x2).bind fun v11 => f238_48 x0 x1 x2 (v11 - x1) x2 a2 s))
set_option maxRecDepth 20000 in
theorem s238_15 {sc : Option (Nat × (Nat → Int32))} {x0 : Nat} {x1 : Int32} {x2 : Int32} {s : xS} {o : xH × Option Value} {r : ((Int32 × xS) ⊕ (xS × Int32))} (k0 : oK x0 12 = true) (h : f238_15 x0 x1 x2 s = some r) (hr : dn238_15 sc x0 x1 o r) : Ev sc 2 238 [] 15 [some (.ref x0), some (.int x1), some (.int x2)] [] (hk_of s) o := by
  unfold f238_15 at h
  refine E_blk rfl ?_
  refine E_ps 2 (pc' := 18) (l' := [some (.ref x0), some (.int x1), some (.int x2)]) (st' := [.int (100 : Int32), .int x2]) rfl ?_
  by_cases c1 : (100 : Int32) ≤ x2
  · rw [if_pos c1] at h
    refine E_jt rfl rfl c1 ?_
    obtain ⟨r, h, hr⟩ := lf_some (Dn := dn238_15 sc x0 x1 o) h hr
    refine E_blk rfl ?_
    refine E_ps 1 (pc' := 56) (l' := [some (.ref x0), some (.int x1), some (.int x2)]) (st' := [.int (1 : Int32)]) rfl ?_
    cases h
    exact E_ret rfl (pg_mt_md (by decide)) rfl hr
  · rw [if_neg c1] at h
    refine E_jf rfl rfl c1 ?_
    refine E_blk rfl ?_
    refine E_ps 1 (pc' := 22) (l' := [some (.ref x0), some (.int x1), some (.int x2)]) (st' := [.ref x0]) rfl ?_
    obtain ⟨a2, e3, h⟩ := Option.bind_eq_some_iff.mp h
    refine E_gr k0 (by decide) rfl e3 ?_
    refine E_ps 2 (pc' := 27) (l' := [some (.ref x0), some (.int x1), some (.int x2)]) (st' := [.ref x0, .int x2, .ref a2]) rfl ?_
    obtain ⟨a4, e5, h⟩ := Option.bind_eq_some_iff.mp h
    refine E_gr k0 (by decide) rfl e5 ?_
    refine E_ps 1 (pc' := 31) (l' := [some (.ref x0), some (.int x1), some (.int x2)]) (st' := [.int x2, .ref a4, .int x2, .ref a2]) rfl ?_
    obtain ⟨v6, e7, h⟩ := Option.bind_eq_some_iff.mp h
    refine E_ai e7 ?_
    refine E_ps 1 (pc' := 33) (l' := [some (.ref x0), some (.int x1), some (.int x2)]) (st' := [.int x1, .int v6, .int x2, .ref a2]) rfl ?_
    by_cases c8 : v6 ≤ x1
    · rw [if_pos c8] at h
      refine E_jt rfl rfl c8 ?_
      refine E_blk rfl ?_
      refine E_ps 1 (pc' := 48) (l' := [some (.ref x0), some (.int x1), some (.int x2)]) (st' := [.int (0 : Int32), .int x2, .ref a2]) rfl ?_
      exact E_wk (l' := [some (.ref x0), some (.int x1), some (.int x2)]) ⟨rfl, rfl, rfl, trivial⟩ (s238_48 k0 h hr)
    · rw [if_neg c8] at h
      refine E_jf rfl rfl c8 ?_
      refine E_blk rfl ?_
      refine E_ps 1 (pc' := 37) (l' := [some (.ref x0), some (.int x1), some (.int x2)]) (st' := [.ref x0, .int x2, .ref a2]) rfl ?_
      obtain ⟨a9, e10, h⟩ := Option.bind_eq_some_iff.mp h
      refine E_gr k0 (by decide) rfl e10 ?_
      refine E_ps 1 (pc' := 41) (l' := [some (.ref x0), some (.int x1), some (.int x2)]) (st' := [.int x2, .ref a9, .int x2, .ref a2]) rfl ?_
      obtain ⟨v11, e12, h⟩ := Option.bind_eq_some_iff.mp h
      refine E_ai e12 ?_
      refine E_ps 2 (pc' := 44) (l' := [some (.ref x0), some (.int x1), some (.int x2)]) (st' := [.int (v11 - x1), .int x2, .ref a2]) rfl ?_
      refine E_j rfl rfl ?_
      exact E_wk (l' := [some (.ref x0), some (.int x1), some (.int x2)]) ⟨rfl, rfl, rfl, trivial⟩ (s238_48 k0 h hr)
theorem s238_15_w {sc : Option (Nat × (Nat → Int32))} {x0 : Nat} {x1 : Int32} {x2 : Int32} {s : xS} {o : xH × Option Value} {r : (xS × Int32)} (k0 : oK x0 12 = true) (h : whl (fun q : (Int32 × xS) => f238_15 x0 x1 q.1 q.2) (x2, s) = some r) (hr : dn238 o r) : Ev sc 2 238 [] 15 [some (.ref x0), some (.int x1), some (.int x2)] [] (hk_of s) o := by
  refine whl_snd (E := fun q : (Int32 × xS) => Ev sc 2 238 [] 15 [some (.ref x0), some (.int x1), some (.int q.1)] [] (hk_of q.2) o) (P := fun r => dn238 o r) (fun q r h hr => ?_) h hr
  exact s238_15 k0 h (by cases r <;> exact hr)
noncomputable def f238 (x0 : Nat) (x1 : Int32) (s : xS) : Option (xS × Int32) := ifg (oK x0 12 = true) <| (f195 x1 (0 : Int32) (1000 : Int32) s).bind fun z1 => if z1.2 = 0 then (some (z1.1, (0 : Int32))) else (whl (fun q : (Int32 × xS) => f238_15 x0 x1 q.1 q.2) ((0 : Int32), z1.1))
set_option maxRecDepth 20000 in
theorem s238 {sc : Option (Nat × (Nat → Int32))} {x0 : Nat} {x1 : Int32} {s : xS} {r : xS × Int32} (h : f238 x0 x1 s = some r) : Cl sc 2 238 [.ref x0, .int x1] (hk_of s) (hk_of r.1, some (.int r.2)) := by
  unfold f238 at h
  obtain ⟨k0, h⟩ := ifg_some h
  refine ⟨pg_md 238, [some (.ref x0), some (.int x1), none], pg_mt_md (by decide), (hk_rcv k0), rfl, ?_⟩
  generalize ho : ((hk_of r.1, some (Value.int r.2)) : xH × Option Value) = o
  have hr : dn238 o r := ho.symm
  refine E_blk rfl ?_
  refine E_ps 3 (pc' := 5) (l' := [some (.ref x0), some (.int x1), none]) (st' := [.int (1000 : Int32), .int (0 : Int32), .int x1]) rfl ?_
  obtain ⟨z1, e2, h⟩ := Option.bind_eq_some_iff.mp h
  refine E_callI (vs := [.int x1, .int (0 : Int32), .int (1000 : Int32)]) (rest := []) rfl (by decide) rfl rfl (Nat.le_of_ble_eq_true rfl) (s195 e2) (by decide) ?_
  by_cases c3 : z1.2 = 0
  · rw [if_pos c3] at h
    refine E_jt rfl rfl c3 ?_
    refine E_blk rfl ?_
    refine E_ps 1 (pc' := 12) (l' := [some (.ref x0), some (.int x1), none]) (st' := [.int (0 : Int32)]) rfl ?_
    cases h
    exact E_ret rfl (pg_mt_md (by decide)) rfl hr
  · rw [if_neg c3] at h
    refine E_jf rfl rfl c3 ?_
    refine E_blk rfl ?_
    refine E_ps 2 (pc' := 15) (l' := [some (.ref x0), some (.int x1), some (.int (0 : Int32))]) (st' := []) rfl ?_
    exact E_wk (l' := [some (.ref x0), some (.int x1), some (.int (0 : Int32))]) ⟨rfl, rfl, rfl, trivial⟩ (s238_15_w k0 h hr)

-- 239: ThreePlatesModel.power(JI)J
def dn239 (o : xH × Option Value) (r : xS × Int64) : Prop := o = (hk_of r.1, some (.long r.2))
def dn239_8 (sc : Option (Nat × (Nat → Int32)))  (o : xH × Option Value) (r : ((Int64 × Int64 × Int32 × xS) ⊕ (xS × Int64))) : Prop := match r with
  | .inl q => Ev sc 1 239 [] 8 [none, none, none, some (.long q.1), none, some (.long q.2.1), none, some (.int q.2.2.1)] [] (hk_of q.2.2.2) o
  | .inr r => dn239 o r
noncomputable def f239_30 (x3 : Int64) (x5 : Int64) (x7 : Int32) (s : xS) : Option ((Int64 × Int64 × Int32 × xS) ⊕ (xS × Int64)) := some (Sum.inl (x3, (lrm (x5 * x5) (1000003 : Int64)), (x7 / (2 : Int32)), s))
set_option maxRecDepth 20000 in
theorem s239_30 {sc : Option (Nat × (Nat → Int32))} {x3 : Int64} {x5 : Int64} {x7 : Int32} {s : xS} {o : xH × Option Value} {r : ((Int64 × Int64 × Int32 × xS) ⊕ (xS × Int64))}  (h : f239_30 x3 x5 x7 s = some r) (hr : dn239_8 sc  o r) : Ev sc 1 239 [] 30 [none, none, none, some (.long x3), none, some (.long x5), none, some (.int x7)] [] (hk_of s) o := by
  unfold f239_30 at h
  refine E_blk rfl ?_
  refine E_ps 4 (pc' := 38) (l' := [none, none, none, some (.long x3), none, some (.long x5), none, some (.int x7)]) (st' := [.long (1000003 : Int64), .long (x5 * x5)]) rfl ?_
  refine E_lrem (by decide) ?_
  refine E_ps 3 (pc' := 44) (l' := [none, none, none, some (.long x3), none, some (.long (lrm (x5 * x5) (1000003 : Int64))), none, some (.int x7)]) (st' := [.int (2 : Int32), .int x7]) rfl ?_
  refine E_idiv (by decide) ?_
  refine E_ps 1 (pc' := 47) (l' := [none, none, none, some (.long x3), none, some (.long (lrm (x5 * x5) (1000003 : Int64))), none, some (.int (x7 / (2 : Int32)))]) (st' := []) rfl ?_
  refine E_j rfl rfl ?_
  cases h
  exact E_wk (l' := [none, none, none, some (.long x3), none, some (.long (lrm (x5 * x5) (1000003 : Int64))), none, some (.int (x7 / (2 : Int32)))]) ⟨rfl, rfl, rfl, trivial⟩ hr
noncomputable def f239_8 (x3 : Int64) (x5 : Int64) (x7 : Int32) (s : xS) : Option ((Int64 × Int64 × Int32 × xS) ⊕ (xS × Int64)) := if x7 ≤ 0 then (Option.map Sum.inr (some (s, x3))) else (if (irm x7 (2 : Int32)) = (1 : Int32) then (f239_30 (lrm (x3 * x5) (1000003 : Int64)) x5 x7 s) else (f239_30 x3 x5 x7 s))
set_option maxRecDepth 20000 in
theorem s239_8 {sc : Option (Nat × (Nat → Int32))} {x3 : Int64} {x5 : Int64} {x7 : Int32} {s : xS} {o : xH × Option Value} {r : ((Int64 × Int64 × Int32 × xS) ⊕ (xS × Int64))}  (h : f239_8 x3 x5 x7 s = some r) (hr : dn239_8 sc  o r) : Ev sc 1 239 [] 8 [none, none, none, some (.long x3), none, some (.long x5), none, some (.int x7)] [] (hk_of s) o := by
  unfold f239_8 at h
  refine E_blk rfl ?_
  refine E_ps 1 (pc' := 10) (l' := [none, none, none, some (.long x3), none, some (.long x5), none, some (.int x7)]) (st' := [.int x7]) rfl ?_
  by_cases c1 : x7 ≤ 0
  · rw [if_pos c1] at h
    refine E_jt rfl rfl c1 ?_
    obtain ⟨r, h, hr⟩ := lf_some (Dn := dn239_8 sc  o) h hr
    refine E_blk rfl ?_
    refine E_ps 1 (pc' := 51) (l' := [none, none, none, some (.long x3), none, some (.long x5), none, some (.int x7)]) (st' := [.long x3]) rfl ?_
    cases h
    exact E_ret rfl (pg_mt_md (by decide)) rfl hr
  · rw [if_neg c1] at h
    refine E_jf rfl rfl c1 ?_
    refine E_blk rfl ?_
    refine E_ps 2 (pc' := 16) (l' := [none, none, none, some (.long x3), none, some (.long x5), none, some (.int x7)]) (st' := [.int (2 : Int32), .int x7]) rfl ?_
    refine E_irem (by decide) ?_
    refine E_ps 1 (pc' := 18) (l' := [none, none, none, some (.long x3), none, some (.long x5), none, some (.int x7)]) (st' := [.int (1 : Int32), .int (irm x7 (2 : Int32))]) rfl ?_
    by_cases c2 : (irm x7 (2 : Int32)) = (1 : Int32)
    · rw [if_pos c2] at h
      refine E_jt rfl rfl c2 ?_
      refine E_blk rfl ?_
      refine E_ps 4 (pc' := 28) (l' := [none, none, none, some (.long x3), none, some (.long x5), none, some (.int x7)]) (st' := [.long (1000003 : Int64), .long (x3 * x5)]) rfl ?_
      refine E_lrem (by decide) ?_
      refine E_ps 1 (pc' := 30) (l' := [none, none, none, some (.long (lrm (x3 * x5) (1000003 : Int64))), none, some (.long x5), none, some (.int x7)]) (st' := []) rfl ?_
      exact E_wk (l' := [none, none, none, some (.long (lrm (x3 * x5) (1000003 : Int64))), none, some (.long x5), none, some (.int x7)]) ⟨rfl, rfl, rfl, trivial⟩ (s239_30  h hr)
    · rw [if_neg c2] at h
      refine E_jf rfl rfl c2 ?_
      exact E_wk (l' := [none, none, none, some (.long x3), none, some (.long x5), none, some (.int x7)]) ⟨rfl, rfl, rfl, trivial⟩ (s239_30  h hr)
theorem s239_8_w {sc : Option (Nat × (Nat → Int32))} {x3 : Int64} {x5 : Int64} {x7 : Int32} {s : xS} {o : xH × Option Value} {r : (xS × Int64)}  (h : whl (fun q : (Int64 × Int64 × Int32 × xS) => f239_8 q.1 q.2.1 q.2.2.1 q.2.2.2) (x3, x5, x7, s) = some r) (hr : dn239 o r) : Ev sc 1 239 [] 8 [none, none, none, some (.long x3), none, some (.long x5), none, some (.int x7)] [] (hk_of s) o := by
  refine whl_snd (E := fun q : (Int64 × Int64 × Int32 × xS) => Ev sc 1 239 [] 8 [none, none, none, some (.long q.1), none, some (.long q.2.1), none, some (.int q.2.2.1)] [] (hk_of q.2.2.2) o) (P := fun r => dn239 o r) (fun q r h hr => ?_) h hr
  exact s239_8  h (by cases r <;> exact hr)
noncomputable def f239 (x0 : Int64) (x2 : Int32) (s : xS) : Option (xS × Int64) :=  whl (fun q : (Int64 × Int64 × Int32 × xS) => f239_8 q.1 q.2.1 q.2.2.1 q.2.2.2) ((1 : Int64), x0, x2, s)
set_option maxRecDepth 20000 in
theorem s239 {sc : Option (Nat × (Nat → Int32))} {x0 : Int64} {x2 : Int32} {s : xS} {r : xS × Int64} (h : f239 x0 x2 s = some r) : Cl sc 1 239 [.long x0, .int x2] (hk_of s) (hk_of r.1, some (.long r.2)) := by
  unfold f239 at h
  refine ⟨pg_md 239, [some (.long x0), none, some (.int x2), none, none, none, none, none], pg_mt_md (by decide), rfl, rfl, ?_⟩
  generalize ho : ((hk_of r.1, some (Value.long r.2)) : xH × Option Value) = o
  have hr : dn239 o r := ho.symm
  refine E_blk rfl ?_
  refine E_ps 6 (pc' := 8) (l' := [some (.long x0), none, some (.int x2), some (.long (1 : Int64)), none, some (.long x0), none, some (.int x2)]) (st' := []) rfl ?_
  exact E_wk (l' := [none, none, none, some (.long (1 : Int64)), none, some (.long x0), none, some (.int x2)]) ⟨rfl, rfl, rfl, trivial⟩ (s239_8_w  h hr)

-- 240: ThreePlatesModel.layEquations()V
def dn240 (o : xH × Option Value) (r : xS × Unit) : Prop := o = (hk_of r.1, none)
def dn240_7 (sc : Option (Nat × (Nat → Int32))) (x0 : Nat) (o : xH × Option Value) (r : ((Int32 × xS) ⊕ (xS × Unit))) : Prop := match r with
  | .inl q => Ev sc 5 240 [] 7 [some (.ref x0), some (.int q.1), none, none, none] [] (hk_of q.2) o
  | .inr r => dn240 o r
def dn240_32 (sc : Option (Nat × (Nat → Int32))) (x0 : Nat) (x1 : Int32) (o : xH × Option Value) (r : ((Int32 × xS) ⊕ (xS × Unit))) : Prop := match r with
  | .inl q => Ev sc 5 240 [] 32 [some (.ref x0), some (.int x1), some (.int q.1), none, none] [] (hk_of q.2) o
  | .inr r => dn240 o r
def dn240_76 (sc : Option (Nat × (Nat → Int32))) (x0 : Nat) (x1 : Int32) (x2 : Int32) (o : xH × Option Value) (r : ((Int32 × xS) ⊕ ((Int32 × xS) ⊕ (xS × Unit)))) : Prop := match r with
  | .inl q => Ev sc 5 240 [] 76 [some (.ref x0), some (.int x1), some (.int x2), some (.int q.1), none] [] (hk_of q.2) o
  | .inr r => dn240_32 sc x0 x1 o r
noncomputable def f240_237 (x0 : Nat) (x1 : Int32) (x2 : Int32) (x3 : Int32) (s : xS) : Option ((Int32 × xS) ⊕ ((Int32 × xS) ⊕ (xS × Unit))) := some (Sum.inl ((x3 + (1 : Int32)), s))
set_option maxRecDepth 20000 in
theorem s240_237 {sc : Option (Nat × (Nat → Int32))} {x0 : Nat} {x1 : Int32} {x2 : Int32} {x3 : Int32} {s : xS} {o : xH × Option Value} {r : ((Int32 × xS) ⊕ ((Int32 × xS) ⊕ (xS × Unit)))} (k0 : oK x0 12 = true) (h : f240_237 x0 x1 x2 x3 s = some r) (hr : dn240_76 sc x0 x1 x2 o r) : Ev sc 5 240 [] 237 [some (.ref x0), some (.int x1), some (.int x2), some (.int x3), none] [] (hk_of s) o := by
  unfold f240_237 at h
  refine E_blk rfl ?_
  refine E_ps 1 (pc' := 240) (l' := [some (.ref x0), some (.int x1), some (.int x2), some (.int (x3 + (1 : Int32))), none]) (st' := []) rfl ?_
  refine E_j rfl rfl ?_
  cases h
  exact E_wk (l' := [some (.ref x0), some (.int x1), some (.int x2), some (.int (x3 + (1 : Int32))), none]) ⟨rfl, rfl, rfl, rfl, trivial⟩ hr
noncomputable def f240_76 (x0 : Nat) (x1 : Int32) (x2 : Int32) (x3 : Int32) (s : xS) : Option ((Int32 × xS) ⊕ ((Int32 × xS) ⊕ (xS × Unit))) := (f197 x0 s).bind fun z1 => if z1.2 ≤ x3 then (Option.map Sum.inr (some (Sum.inl ((x2 + (1 : Int32)), z1.1)))) else ((hk_R x0 39).bind fun a4 => (aI z1.1 a4 x3).bind fun v6 => if 0 ≤ v6 then ((hk_R x0 50).bind fun a9 => (hk_R x0 31).bind fun a11 => (aI z1.1 a11 x2).bind fun v13 => (wL z1.1 a9 ((((130 : Int32) * (z1.1.1 x0 51)) + ((25 : Int32) * v13)) + x3) (1 : Int64)).bind fun t15 => (hk_R x0 50).bind fun a17 => (hk_R x0 30).bind fun a19 => (aI t15 a19 x2).bind fun v21 => (hk_R x0 39).bind fun a23 => (aI t15 a23 x3).bind fun v25 => (wL t15 a17 ((((130 : Int32) * (z1.1.1 x0 51)) + ((25 : Int32) * v21)) + v25) (1 : Int64)).bind fun t27 => (hk_R x0 50).bind fun a29 => (wL t27 a29 ((((130 : Int32) * (z1.1.1 x0 51)) + x1) + ((3 : Int32) * x2)) (1000002 : Int64)).bind fun t31 => (hk_R x0 50).bind fun a33 => (f196 x0 t31).bind fun z35 => ifg (¬ z35.2 = 0) <| (wL z35.1 a33 (((((130 : Int32) * (z1.1.1 x0 51)) + x1) + ((3 : Int32) * x2)) + (1 : Int32)) (irm ((1000003 : Int32) - (irm x3 z35.2)) (1000003 : Int32)).toInt64).bind fun t38 => (hk_R x0 50).bind fun a40 => (f196 x0 t38).bind fun z42 => ifg (¬ z42.2 = 0) <| (wL z42.1 a40 (((((130 : Int32) * (z1.1.1 x0 51)) + x1) + ((3 : Int32) * x2)) + (2 : Int32)) (irm ((1000003 : Int32) - (x3 / z42.2)) (1000003 : Int32)).toInt64).bind fun t45 => (pI t45 x0 51 ((t45.1 x0 51) + (1 : Int32))).bind fun t47 => f240_237 x0 x1 x2 x3 t47) else (f240_237 x0 x1 x2 x3 z1.1))
set_option maxRecDepth 20000 in
theorem s240_76 {sc : Option (Nat × (Nat → Int32))} {x0 : Nat} {x1 : Int32} {x2 : Int32} {x3 : Int32} {s : xS} {o : xH × Option Value} {r : ((Int32 × xS) ⊕ ((Int32 × xS) ⊕ (xS × Unit)))} (k0 : oK x0 12 = true) (h : f240_76 x0 x1 x2 x3 s = some r) (hr : dn240_76 sc x0 x1 x2 o r) : Ev sc 5 240 [] 76 [some (.ref x0), some (.int x1), some (.int x2), some (.int x3), none] [] (hk_of s) o := by
  unfold f240_76 at h
  refine E_blk rfl ?_
  refine E_ps 2 (pc' := 78) (l' := [some (.ref x0), some (.int x1), some (.int x2), some (.int x3), none]) (st' := [.ref x0, .int x3]) rfl ?_
  obtain ⟨z1, e2, h⟩ := Option.bind_eq_some_iff.mp h
  refine E_callI (vs := [.ref x0]) (rest := [.int x3]) rfl (by decide) rfl rfl (Nat.le_of_ble_eq_true rfl) (s197 e2) (by decide) ?_
  by_cases c3 : z1.2 ≤ x3
  · rw [if_pos c3] at h
    refine E_jt rfl rfl c3 ?_
    obtain ⟨r, h, hr⟩ := lf_some (Dn := dn240_76 sc x0 x1 x2 o) h hr
    refine E_blk rfl ?_
    refine E_ps 1 (pc' := 246) (l' := [some (.ref x0), some (.int x1), some (.int (x2 + (1 : Int32))), some (.int x3), none]) (st' := []) rfl ?_
    refine E_j rfl rfl ?_
    cases h
    exact E_wk (l' := [some (.ref x0), some (.int x1), some (.int (x2 + (1 : Int32))), none, none]) ⟨rfl, rfl, rfl, trivial⟩ hr
  · rw [if_neg c3] at h
    refine E_jf rfl rfl c3 ?_
    refine E_blk rfl ?_
    refine E_ps 1 (pc' := 85) (l' := [some (.ref x0), some (.int x1), some (.int x2), some (.int x3), none]) (st' := [.ref x0]) rfl ?_
    obtain ⟨a4, e5, h⟩ := Option.bind_eq_some_iff.mp h
    refine E_gr k0 (by decide) rfl e5 ?_
    refine E_ps 1 (pc' := 89) (l' := [some (.ref x0), some (.int x1), some (.int x2), some (.int x3), none]) (st' := [.int x3, .ref a4]) rfl ?_
    obtain ⟨v6, e7, h⟩ := Option.bind_eq_some_iff.mp h
    refine E_ai e7 ?_
    by_cases c8 : 0 ≤ v6
    · rw [if_pos c8] at h
      refine E_jt rfl rfl c8 ?_
      refine E_blk rfl ?_
      refine E_ps 2 (pc' := 100) (l' := [some (.ref x0), some (.int x1), some (.int x2), some (.int x3), none]) (st' := [.ref x0, .int (130 : Int32)]) rfl ?_
      refine E_gi k0 (by decide) rfl ?_
      refine E_ps 3 (pc' := 107) (l' := [some (.ref x0), some (.int x1), some (.int x2), some (.int x3), some (.int ((130 : Int32) * (z1.1.1 x0 51)))]) (st' := [.ref x0]) rfl ?_
      obtain ⟨a9, e10, h⟩ := Option.bind_eq_some_iff.mp h
      refine E_gr k0 (by decide) rfl e10 ?_
      refine E_ps 3 (pc' := 115) (l' := [some (.ref x0), some (.int x1), some (.int x2), some (.int x3), some (.int ((130 : Int32) * (z1.1.1 x0 51)))]) (st' := [.ref x0, .int (25 : Int32), .int ((130 : Int32) * (z1.1.1 x0 51)), .ref a9]) rfl ?_
      obtain ⟨a11, e12, h⟩ := Option.bind_eq_some_iff.mp h
      refine E_gr k0 (by decide) rfl e12 ?_
      refine E_ps 1 (pc' := 119) (l' := [some (.ref x0), some (.int x1), some (.int x2), some (.int x3), some (.int ((130 : Int32) * (z1.1.1 x0 51)))]) (st' := [.int x2, .ref a11, .int (25 : Int32), .int ((130 : Int32) * (z1.1.1 x0 51)), .ref a9]) rfl ?_
      obtain ⟨v13, e14, h⟩ := Option.bind_eq_some_iff.mp h
      refine E_ai e14 ?_
      refine E_ps 5 (pc' := 125) (l' := [some (.ref x0), some (.int x1), some (.int x2), some (.int x3), some (.int ((130 : Int32) * (z1.1.1 x0 51)))]) (st' := [.long (1 : Int64), .int ((((130 : Int32) * (z1.1.1 x0 51)) + ((25 : Int32) * v13)) + x3), .ref a9]) rfl ?_
      obtain ⟨t15, e16, h⟩ := Option.bind_eq_some_iff.mp h
      refine E_wl e16 ?_
      refine E_ps 1 (pc' := 127) (l' := [some (.ref x0), some (.int x1), some (.int x2), some (.int x3), some (.int ((130 : Int32) * (z1.1.1 x0 51)))]) (st' := [.ref x0]) rfl ?_
      obtain ⟨a17, e18, h⟩ := Option.bind_eq_some_iff.mp h
      refine E_gr k0 (by decide) rfl e18 ?_
      refine E_ps 3 (pc' := 135) (l' := [some (.ref x0), some (.int x1), some (.int x2), some (.int x3), some (.int ((130 : Int32) * (z1.1.1 x0 51)))]) (st' := [.ref x0, .int (25 : Int32), .int ((130 : Int32) * (z1.1.1 x0 51)), .ref a17]) rfl ?_
      obtain ⟨a19, e20, h⟩ := Option.bind_eq_some_iff.mp h
      refine E_gr k0 (by decide) rfl e20 ?_
      refine E_ps 1 (pc' := 139) (l' := [some (.ref x0), some (.int x1), some (.int x2), some (.int x3), some (.int ((130 : Int32) * (z1.1.1 x0 51)))]) (st' := [.int x2, .ref a19, .int (25 : Int32), .int ((130 : Int32) * (z1.1.1 x0 51)), .ref a17]) rfl ?_
      obtain ⟨v21, e22, h⟩ := Option.bind_eq_some_iff.mp h
      refine E_ai e22 ?_
      refine E_ps 3 (pc' := 143) (l' := [some (.ref x0), some (.int x1), some (.int x2), some (.int x3), some (.int ((130 : Int32) * (z1.1.1 x0 51)))]) (st' := [.ref x0, .int (((130 : Int32) * (z1.1.1 x0 51)) + ((25 : Int32) * v21)), .ref a17]) rfl ?_
      obtain ⟨a23, e24, h⟩ := Option.bind_eq_some_iff.mp h
      refine E_gr k0 (by decide) rfl e24 ?_
      refine E_ps 1 (pc' := 147) (l' := [some (.ref x0), some (.int x1), some (.int x2), some (.int x3), some (.int ((130 : Int32) * (z1.1.1 x0 51)))]) (st' := [.int x3, .ref a23, .int (((130 : Int32) * (z1.1.1 x0 51)) + ((25 : Int32) * v21)), .ref a17]) rfl ?_
      obtain ⟨v25, e26, h⟩ := Option.bind_eq_some_iff.mp h
      refine E_ai e26 ?_
      refine E_ps 2 (pc' := 150) (l' := [some (.ref x0), some (.int x1), some (.int x2), some (.int x3), some (.int ((130 : Int32) * (z1.1.1 x0 51)))]) (st' := [.long (1 : Int64), .int ((((130 : Int32) * (z1.1.1 x0 51)) + ((25 : Int32) * v21)) + v25), .ref a17]) rfl ?_
      obtain ⟨t27, e28, h⟩ := Option.bind_eq_some_iff.mp h
      refine E_wl e28 ?_
      refine E_ps 1 (pc' := 152) (l' := [some (.ref x0), some (.int x1), some (.int x2), some (.int x3), some (.int ((130 : Int32) * (z1.1.1 x0 51)))]) (st' := [.ref x0]) rfl ?_
      obtain ⟨a29, e30, h⟩ := Option.bind_eq_some_iff.mp h
      refine E_gr k0 (by decide) rfl e30 ?_
      refine E_ps 8 (pc' := 166) (l' := [some (.ref x0), some (.int x1), some (.int x2), some (.int x3), some (.int ((130 : Int32) * (z1.1.1 x0 51)))]) (st' := [.long (1000002 : Int64), .int ((((130 : Int32) * (z1.1.1 x0 51)) + x1) + ((3 : Int32) * x2)), .ref a29]) rfl ?_
      obtain ⟨t31, e32, h⟩ := Option.bind_eq_some_iff.mp h
      refine E_wl e32 ?_
      refine E_ps 1 (pc' := 168) (l' := [some (.ref x0), some (.int x1), some (.int x2), some (.int x3), some (.int ((130 : Int32) * (z1.1.1 x0 51)))]) (st' := [.ref x0]) rfl ?_
      obtain ⟨a33, e34, h⟩ := Option.bind_eq_some_iff.mp h
      refine E_gr k0 (by decide) rfl e34 ?_
      refine E_ps 12 (pc' := 186) (l' := [some (.ref x0), some (.int x1), some (.int x2), some (.int x3), some (.int ((130 : Int32) * (z1.1.1 x0 51)))]) (st' := [.ref x0, .int x3, .int (1000003 : Int32), .int (((((130 : Int32) * (z1.1.1 x0 51)) + x1) + ((3 : Int32) * x2)) + (1 : Int32)), .ref a33]) rfl ?_
      obtain ⟨z35, e36, h⟩ := Option.bind_eq_some_iff.mp h
      refine E_callI (vs := [.ref x0]) (rest := [.int x3, .int (1000003 : Int32), .int (((((130 : Int32) * (z1.1.1 x0 51)) + x1) + ((3 : Int32) * x2)) + (1 : Int32)), .ref a33]) rfl (by decide) rfl rfl (Nat.le_of_ble_eq_true rfl) (s196 e36) (by decide) ?_
      obtain ⟨g37, h⟩ := ifg_some h
      refine E_irem g37 ?_
      refine E_ps 2 (pc' := 194) (l' := [some (.ref x0), some (.int x1), some (.int x2), some (.int x3), some (.int ((130 : Int32) * (z1.1.1 x0 51)))]) (st' := [.int (1000003 : Int32), .int ((1000003 : Int32) - (irm x3 z35.2)), .int (((((130 : Int32) * (z1.1.1 x0 51)) + x1) + ((3 : Int32) * x2)) + (1 : Int32)), .ref a33]) rfl ?_
      refine E_irem (by decide) ?_
      refine E_ps 1 (pc' := 196) (l' := [some (.ref x0), some (.int x1), some (.int x2), some (.int x3), some (.int ((130 : Int32) * (z1.1.1 x0 51)))]) (st' := [.long (irm ((1000003 : Int32) - (irm x3 z35.2)) (1000003 : Int32)).toInt64, .int (((((130 : Int32) * (z1.1.1 x0 51)) + x1) + ((3 : Int32) * x2)) + (1 : Int32)), .ref a33]) rfl ?_
      obtain ⟨t38, e39, h⟩ := Option.bind_eq_some_iff.mp h
      refine E_wl e39 ?_
      refine E_ps 1 (pc' := 198) (l' := [some (.ref x0), some (.int x1), some (.int x2), some (.int x3), some (.int ((130 : Int32) * (z1.1.1 x0 51)))]) (st' := [.ref x0]) rfl ?_
      obtain ⟨a40, e41, h⟩ := Option.bind_eq_some_iff.mp h
      refine E_gr k0 (by decide) rfl e41 ?_
      refine E_ps 12 (pc' := 216) (l' := [some (.ref x0), some (.int x1), some (.int x2), some (.int x3), some (.int ((130 : Int32) * (z1.1.1 x0 51)))]) (st' := [.ref x0, .int x3, .int (1000003 : Int32), .int (((((130 : Int32) * (z1.1.1 x0 51)) + x1) + ((3 : Int32) * x2)) + (2 : Int32)), .ref a40]) rfl ?_
      obtain ⟨z42, e43, h⟩ := Option.bind_eq_some_iff.mp h
      refine E_callI (vs := [.ref x0]) (rest := [.int x3, .int (1000003 : Int32), .int (((((130 : Int32) * (z1.1.1 x0 51)) + x1) + ((3 : Int32) * x2)) + (2 : Int32)), .ref a40]) rfl (by decide) rfl rfl (Nat.le_of_ble_eq_true rfl) (s196 e43) (by decide) ?_
      obtain ⟨g44, h⟩ := ifg_some h
      refine E_idiv g44 ?_
      refine E_ps 2 (pc' := 224) (l' := [some (.ref x0), some (.int x1), some (.int x2), some (.int x3), some (.int ((130 : Int32) * (z1.1.1 x0 51)))]) (st' := [.int (1000003 : Int32), .int ((1000003 : Int32) - (x3 / z42.2)), .int (((((130 : Int32) * (z1.1.1 x0 51)) + x1) + ((3 : Int32) * x2)) + (2 : Int32)), .ref a40]) rfl ?_
      refine E_irem (by decide) ?_
      refine E_ps 1 (pc' := 226) (l' := [some (.ref x0), some (.int x1), some (.int x2), some (.int x3), some (.int ((130 : Int32) * (z1.1.1 x0 51)))]) (st' := [.long (irm ((1000003 : Int32) - (x3 / z42.2)) (1000003 : Int32)).toInt64, .int (((((130 : Int32) * (z1.1.1 x0 51)) + x1) + ((3 : Int32) * x2)) + (2 : Int32)), .ref a40]) rfl ?_
      obtain ⟨t45, e46, h⟩ := Option.bind_eq_some_iff.mp h
      refine E_wl e46 ?_
      refine E_ps 2 (pc' := 229) (l' := [some (.ref x0), some (.int x1), some (.int x2), some (.int x3), some (.int ((130 : Int32) * (z1.1.1 x0 51)))]) (st' := [.ref x0, .ref x0]) rfl ?_
      refine E_gi k0 (by decide) rfl ?_
      refine E_ps 2 (pc' := 234) (l' := [some (.ref x0), some (.int x1), some (.int x2), some (.int x3), some (.int ((130 : Int32) * (z1.1.1 x0 51)))]) (st' := [.int ((t45.1 x0 51) + (1 : Int32)), .ref x0]) rfl ?_
      obtain ⟨t47, e48, h⟩ := Option.bind_eq_some_iff.mp h
      refine E_pi k0 (by decide) rfl e48 ?_
      exact E_wk (l' := [some (.ref x0), some (.int x1), some (.int x2), some (.int x3), none]) ⟨rfl, rfl, rfl, rfl, trivial⟩ (s240_237 k0 h hr)
    · rw [if_neg c8] at h
      refine E_jf rfl rfl c8 ?_
      refine E_blk rfl ?_
      refine E_j rfl rfl ?_
      exact E_wk (l' := [some (.ref x0), some (.int x1), some (.int x2), some (.int x3), none]) ⟨rfl, rfl, rfl, rfl, trivial⟩ (s240_237 k0 h hr)
theorem s240_76_w {sc : Option (Nat × (Nat → Int32))} {x0 : Nat} {x1 : Int32} {x2 : Int32} {x3 : Int32} {s : xS} {o : xH × Option Value} {r : ((Int32 × xS) ⊕ (xS × Unit))} (k0 : oK x0 12 = true) (h : whl (fun q : (Int32 × xS) => f240_76 x0 x1 x2 q.1 q.2) (x3, s) = some r) (hr : dn240_32 sc x0 x1 o r) : Ev sc 5 240 [] 76 [some (.ref x0), some (.int x1), some (.int x2), some (.int x3), none] [] (hk_of s) o := by
  refine whl_snd (E := fun q : (Int32 × xS) => Ev sc 5 240 [] 76 [some (.ref x0), some (.int x1), some (.int x2), some (.int q.1), none] [] (hk_of q.2) o) (P := fun r => dn240_32 sc x0 x1 o r) (fun q r h hr => ?_) h hr
  exact s240_76 k0 h (by cases r <;> exact hr)
noncomputable def f240_32 (x0 : Nat) (x1 : Int32) (x2 : Int32) (s : xS) : Option ((Int32 × xS) ⊕ (xS × Unit)) := if (s.1 x0 37) ≤ x2 then (Option.map Sum.inr (some (s, ()))) else ((hk_R x0 31).bind fun a2 => (aI s a2 x2).bind fun v4 => (hk_R x0 30).bind fun a6 => (aI s a6 x2).bind fun v8 => (hk_R x0 32).bind fun a10 => (aI s a10 x2).bind fun v12 => (hk_R x0 33).bind fun a14 => (aI s a14 x2).bind fun v16 => (hk_R x0 34).bind fun a18 => (aI s a18 x2).bind fun v20 => (f206 x0 v4 v8 v12 v16 v20 s).bind fun z22 => whl (fun q : (Int32 × xS) => f240_76 x0 x1 x2 q.1 q.2) ((0 : Int32), z22.1))
set_option maxRecDepth 20000 in
theorem s240_32 {sc : Option (Nat × (Nat → Int32))} {x0 : Nat} {x1 : Int32} {x2 : Int32} {s : xS} {o : xH × Option Value} {r : ((Int32 × xS) ⊕ (xS × Unit))} (k0 : oK x0 12 = true) (h : f240_32 x0 x1 x2 s = some r) (hr : dn240_32 sc x0 x1 o r) : Ev sc 5 240 [] 32 [some (.ref x0), some (.int x1), some (.int x2), none, none] [] (hk_of s) o := by
  unfold f240_32 at h
  refine E_blk rfl ?_
  refine E_ps 2 (pc' := 34) (l' := [some (.ref x0), some (.int x1), some (.int x2), none, none]) (st' := [.ref x0, .int x2]) rfl ?_
  refine E_gi k0 (by decide) rfl ?_
  by_cases c1 : (s.1 x0 37) ≤ x2
  · rw [if_pos c1] at h
    refine E_jt rfl rfl c1 ?_
    obtain ⟨r, h, hr⟩ := lf_some (Dn := dn240_32 sc x0 x1 o) h hr
    refine E_blk rfl ?_
    cases h
    exact E_ret rfl (pg_mt_md (by decide)) rfl hr
  · rw [if_neg c1] at h
    refine E_jf rfl rfl c1 ?_
    refine E_blk rfl ?_
    refine E_ps 2 (pc' := 42) (l' := [some (.ref x0), some (.int x1), some (.int x2), none, none]) (st' := [.ref x0, .ref x0]) rfl ?_
    obtain ⟨a2, e3, h⟩ := Option.bind_eq_some_iff.mp h
    refine E_gr k0 (by decide) rfl e3 ?_
    refine E_ps 1 (pc' := 46) (l' := [some (.ref x0), some (.int x1), some (.int x2), none, none]) (st' := [.int x2, .ref a2, .ref x0]) rfl ?_
    obtain ⟨v4, e5, h⟩ := Option.bind_eq_some_iff.mp h
    refine E_ai e5 ?_
    refine E_ps 1 (pc' := 48) (l' := [some (.ref x0), some (.int x1), some (.int x2), none, none]) (st' := [.ref x0, .int v4, .ref x0]) rfl ?_
    obtain ⟨a6, e7, h⟩ := Option.bind_eq_some_iff.mp h
    refine E_gr k0 (by decide) rfl e7 ?_
    refine E_ps 1 (pc' := 52) (l' := [some (.ref x0), some (.int x1), some (.int x2), none, none]) (st' := [.int x2, .ref a6, .int v4, .ref x0]) rfl ?_
    obtain ⟨v8, e9, h⟩ := Option.bind_eq_some_iff.mp h
    refine E_ai e9 ?_
    refine E_ps 1 (pc' := 54) (l' := [some (.ref x0), some (.int x1), some (.int x2), none, none]) (st' := [.ref x0, .int v8, .int v4, .ref x0]) rfl ?_
    obtain ⟨a10, e11, h⟩ := Option.bind_eq_some_iff.mp h
    refine E_gr k0 (by decide) rfl e11 ?_
    refine E_ps 1 (pc' := 58) (l' := [some (.ref x0), some (.int x1), some (.int x2), none, none]) (st' := [.int x2, .ref a10, .int v8, .int v4, .ref x0]) rfl ?_
    obtain ⟨v12, e13, h⟩ := Option.bind_eq_some_iff.mp h
    refine E_ai e13 ?_
    refine E_ps 1 (pc' := 60) (l' := [some (.ref x0), some (.int x1), some (.int x2), none, none]) (st' := [.ref x0, .int v12, .int v8, .int v4, .ref x0]) rfl ?_
    obtain ⟨a14, e15, h⟩ := Option.bind_eq_some_iff.mp h
    refine E_gr k0 (by decide) rfl e15 ?_
    refine E_ps 1 (pc' := 64) (l' := [some (.ref x0), some (.int x1), some (.int x2), none, none]) (st' := [.int x2, .ref a14, .int v12, .int v8, .int v4, .ref x0]) rfl ?_
    obtain ⟨v16, e17, h⟩ := Option.bind_eq_some_iff.mp h
    refine E_ai e17 ?_
    refine E_ps 1 (pc' := 66) (l' := [some (.ref x0), some (.int x1), some (.int x2), none, none]) (st' := [.ref x0, .int v16, .int v12, .int v8, .int v4, .ref x0]) rfl ?_
    obtain ⟨a18, e19, h⟩ := Option.bind_eq_some_iff.mp h
    refine E_gr k0 (by decide) rfl e19 ?_
    refine E_ps 1 (pc' := 70) (l' := [some (.ref x0), some (.int x1), some (.int x2), none, none]) (st' := [.int x2, .ref a18, .int v16, .int v12, .int v8, .int v4, .ref x0]) rfl ?_
    obtain ⟨v20, e21, h⟩ := Option.bind_eq_some_iff.mp h
    refine E_ai e21 ?_
    obtain ⟨z22, e23, h⟩ := Option.bind_eq_some_iff.mp h
    refine E_callV (vs := [.ref x0, .int v4, .int v8, .int v12, .int v16, .int v20]) (rest := []) rfl (by decide) rfl rfl (Nat.le_of_ble_eq_true rfl) (s206 e23) (by decide) ?_
    refine E_ps 2 (pc' := 76) (l' := [some (.ref x0), some (.int x1), some (.int x2), some (.int (0 : Int32)), none]) (st' := []) rfl ?_
    exact E_wk (l' := [some (.ref x0), some (.int x1), some (.int x2), some (.int (0 : Int32)), none]) ⟨rfl, rfl, rfl, rfl, trivial⟩ (s240_76_w k0 h hr)
theorem s240_32_w {sc : Option (Nat × (Nat → Int32))} {x0 : Nat} {x1 : Int32} {x2 : Int32} {s : xS} {o : xH × Option Value} {r : (xS × Unit)} (k0 : oK x0 12 = true) (h : whl (fun q : (Int32 × xS) => f240_32 x0 x1 q.1 q.2) (x2, s) = some r) (hr : dn240 o r) : Ev sc 5 240 [] 32 [some (.ref x0), some (.int x1), some (.int x2), none, none] [] (hk_of s) o := by
  refine whl_snd (E := fun q : (Int32 × xS) => Ev sc 5 240 [] 32 [some (.ref x0), some (.int x1), some (.int q.1), none, none] [] (hk_of q.2) o) (P := fun r => dn240 o r) (fun q r h hr => ?_) h hr
  exact s240_32 k0 h (by cases r <;> exact hr)
noncomputable def f240_7 (x0 : Nat) (x1 : Int32) (s : xS) : Option ((Int32 × xS) ⊕ (xS × Unit)) := if (32500 : Int32) ≤ x1 then (Option.map Sum.inr (whl (fun q : (Int32 × xS) => f240_32 x0 (100 : Int32) q.1 q.2) ((0 : Int32), s))) else ((hk_R x0 50).bind fun a2 => (wL s a2 x1 (0 : Int64)).bind fun t4 => some (Sum.inl ((x1 + (1 : Int32)), t4)))
set_option maxRecDepth 20000 in
theorem s240_7 {sc : Option (Nat × (Nat → Int32))} {x0 : Nat} {x1 : Int32} {s : xS} {o : xH × Option Value} {r : ((Int32 × xS) ⊕ (xS × Unit))} (k0 : oK x0 12 = true) (h : f240_7 x0 x1 s = some r) (hr : dn240_7 sc x0 o r) : Ev sc 5 240 [] 7 [some (.ref x0), some (.int x1), none, none, none] [] (hk_of s) o := by
  unfold f240_7 at h
  refine E_blk rfl ?_
  refine E_ps 2 (pc' := 11) (l' := [some (.ref x0), some (.int x1), none, none, none]) (st' := [.int (32500 : Int32), .int x1]) rfl ?_
  by_cases c1 : (32500 : Int32) ≤ x1
  · rw [if_pos c1] at h
    refine E_jt rfl rfl c1 ?_
    obtain ⟨r, h, hr⟩ := lf_some (Dn := dn240_7 sc x0 o) h hr
    refine E_blk rfl ?_
    refine E_ps 4 (pc' := 32) (l' := [some (.ref x0), some (.int (100 : Int32)), some (.int (0 : Int32)), none, none]) (st' := []) rfl ?_
    exact E_wk (l' := [some (.ref x0), some (.int (100 : Int32)), some (.int (0 : Int32)), none, none]) ⟨rfl, rfl, rfl, trivial⟩ (s240_32_w k0 h hr)
  · rw [if_neg c1] at h
    refine E_jf rfl rfl c1 ?_
    refine E_blk rfl ?_
    refine E_ps 1 (pc' := 15) (l' := [some (.ref x0), some (.int x1), none, none, none]) (st' := [.ref x0]) rfl ?_
    obtain ⟨a2, e3, h⟩ := Option.bind_eq_some_iff.mp h
    refine E_gr k0 (by decide) rfl e3 ?_
    refine E_ps 2 (pc' := 20) (l' := [some (.ref x0), some (.int x1), none, none, none]) (st' := [.long (0 : Int64), .int x1, .ref a2]) rfl ?_
    obtain ⟨t4, e5, h⟩ := Option.bind_eq_some_iff.mp h
    refine E_wl e5 ?_
    refine E_ps 1 (pc' := 24) (l' := [some (.ref x0), some (.int (x1 + (1 : Int32))), none, none, none]) (st' := []) rfl ?_
    refine E_j rfl rfl ?_
    cases h
    exact E_wk (l' := [some (.ref x0), some (.int (x1 + (1 : Int32))), none, none, none]) ⟨rfl, rfl, trivial⟩ hr
theorem s240_7_w {sc : Option (Nat × (Nat → Int32))} {x0 : Nat} {x1 : Int32} {s : xS} {o : xH × Option Value} {r : (xS × Unit)} (k0 : oK x0 12 = true) (h : whl (fun q : (Int32 × xS) => f240_7 x0 q.1 q.2) (x1, s) = some r) (hr : dn240 o r) : Ev sc 5 240 [] 7 [some (.ref x0), some (.int x1), none, none, none] [] (hk_of s) o := by
  refine whl_snd (E := fun q : (Int32 × xS) => Ev sc 5 240 [] 7 [some (.ref x0), some (.int q.1), none, none, none] [] (hk_of q.2) o) (P := fun r => dn240 o r) (fun q r h hr => ?_) h hr
  exact s240_7 k0 h (by cases r <;> exact hr)
noncomputable def f240 (x0 : Nat) (s : xS) : Option (xS × Unit) := ifg (oK x0 12 = true) <| (pI s x0 51 (0 : Int32)).bind fun t1 => whl (fun q : (Int32 × xS) => f240_7 x0 q.1 q.2) ((0 : Int32), t1)
set_option maxRecDepth 20000 in
theorem s240 {sc : Option (Nat × (Nat → Int32))} {x0 : Nat} {s : xS} {r : xS × Unit} (h : f240 x0 s = some r) : Cl sc 5 240 [.ref x0] (hk_of s) (hk_of r.1, none) := by
  unfold f240 at h
  obtain ⟨k0, h⟩ := ifg_some h
  refine ⟨pg_md 240, [some (.ref x0), none, none, none, none], pg_mt_md (by decide), (hk_rcv k0), rfl, ?_⟩
  generalize ho : ((hk_of r.1, none) : xH × Option Value) = o
  have hr : dn240 o r := ho.symm
  refine E_blk rfl ?_
  refine E_ps 2 (pc' := 2) (l' := [some (.ref x0), none, none, none, none]) (st' := [.int (0 : Int32), .ref x0]) rfl ?_
  obtain ⟨t1, e2, h⟩ := Option.bind_eq_some_iff.mp h
  refine E_pi k0 (by decide) rfl e2 ?_
  refine E_ps 2 (pc' := 7) (l' := [some (.ref x0), some (.int (0 : Int32)), none, none, none]) (st' := []) rfl ?_
  exact E_wk (l' := [some (.ref x0), some (.int (0 : Int32)), none, none, none]) ⟨rfl, rfl, trivial⟩ (s240_7_w k0 h hr)

-- 241: ThreePlatesModel.swapRows(II)V
def dn241 (o : xH × Option Value) (r : xS × Unit) : Prop := o = (hk_of r.1, none)
def dn241_2 (sc : Option (Nat × (Nat → Int32))) (x0 : Nat) (x1 : Int32) (x2 : Int32) (o : xH × Option Value) (r : ((Int32 × xS) ⊕ (xS × Unit))) : Prop := match r with
  | .inl q => Ev sc 1 241 [] 2 [some (.ref x0), some (.int x1), some (.int x2), some (.int q.1), none, none] [] (hk_of q.2) o
  | .inr r => dn241 o r
noncomputable def f241_72  (s : xS) : Option (xS × Unit) := some (s, ())
set_option maxRecDepth 20000 in
theorem s241_72 {sc : Option (Nat × (Nat → Int32))}  {s : xS} {o : xH × Option Value} {r : (xS × Unit)}  (h : f241_72  s = some r) (hr : dn241 o r) : Ev sc 1 241 [] 72 [none, none, none, none, none, none] [] (hk_of s) o := by
  unfold f241_72 at h
  refine E_blk rfl ?_
  cases h
  exact E_ret rfl (pg_mt_md (by decide)) rfl hr
noncomputable def f241_2 (x0 : Nat) (x1 : Int32) (x2 : Int32) (x3 : Int32) (s : xS) : Option ((Int32 × xS) ⊕ (xS × Unit)) := if (130 : Int32) ≤ x3 then (Option.map Sum.inr (f241_72  s)) else (if x1 = x2 then (Option.map Sum.inr (f241_72  s)) else ((hk_R x0 50).bind fun a3 => (aL s a3 (((130 : Int32) * x1) + x3)).bind fun v5 => (hk_R x0 50).bind fun a7 => (hk_R x0 50).bind fun a9 => (aL s a9 (((130 : Int32) * x2) + x3)).bind fun v11 => (wL s a7 (((130 : Int32) * x1) + x3) v11).bind fun t13 => (hk_R x0 50).bind fun a15 => (wL t13 a15 (((130 : Int32) * x2) + x3) v5).bind fun t17 => some (Sum.inl ((x3 + (1 : Int32)), t17))))
set_option maxRecDepth 20000 in
theorem s241_2 {sc : Option (Nat × (Nat → Int32))} {x0 : Nat} {x1 : Int32} {x2 : Int32} {x3 : Int32} {s : xS} {o : xH × Option Value} {r : ((Int32 × xS) ⊕ (xS × Unit))} (k0 : oK x0 12 = true) (h : f241_2 x0 x1 x2 x3 s = some r) (hr : dn241_2 sc x0 x1 x2 o r) : Ev sc 1 241 [] 2 [some (.ref x0), some (.int x1), some (.int x2), some (.int x3), none, none] [] (hk_of s) o := by
  unfold f241_2 at h
  refine E_blk rfl ?_
  refine E_ps 2 (pc' := 6) (l' := [some (.ref x0), some (.int x1), some (.int x2), some (.int x3), none, none]) (st' := [.int (130 : Int32), .int x3]) rfl ?_
  by_cases c1 : (130 : Int32) ≤ x3
  · rw [if_pos c1] at h
    refine E_jt rfl rfl c1 ?_
    obtain ⟨r, h, hr⟩ := lf_some (Dn := dn241_2 sc x0 x1 x2 o) h hr
    exact E_wk (l' := [none, none, none, none, none, none]) trivial (s241_72  h hr)
  · rw [if_neg c1] at h
    refine E_jf rfl rfl c1 ?_
    refine E_blk rfl ?_
    refine E_ps 2 (pc' := 11) (l' := [some (.ref x0), some (.int x1), some (.int x2), some (.int x3), none, none]) (st' := [.int x2, .int x1]) rfl ?_
    by_cases c2 : x1 = x2
    · rw [if_pos c2] at h
      refine E_jt rfl rfl c2 ?_
      obtain ⟨r, h, hr⟩ := lf_some (Dn := dn241_2 sc x0 x1 x2 o) h hr
      exact E_wk (l' := [none, none, none, none, none, none]) trivial (s241_72  h hr)
    · rw [if_neg c2] at h
      refine E_jf rfl rfl c2 ?_
      refine E_blk rfl ?_
      refine E_ps 1 (pc' := 15) (l' := [some (.ref x0), some (.int x1), some (.int x2), some (.int x3), none, none]) (st' := [.ref x0]) rfl ?_
      obtain ⟨a3, e4, h⟩ := Option.bind_eq_some_iff.mp h
      refine E_gr k0 (by decide) rfl e4 ?_
      refine E_ps 5 (pc' := 25) (l' := [some (.ref x0), some (.int x1), some (.int x2), some (.int x3), none, none]) (st' := [.int (((130 : Int32) * x1) + x3), .ref a3]) rfl ?_
      obtain ⟨v5, e6, h⟩ := Option.bind_eq_some_iff.mp h
      refine E_al e6 ?_
      refine E_ps 2 (pc' := 29) (l' := [some (.ref x0), some (.int x1), some (.int x2), some (.int x3), some (.long v5), none]) (st' := [.ref x0]) rfl ?_
      obtain ⟨a7, e8, h⟩ := Option.bind_eq_some_iff.mp h
      refine E_gr k0 (by decide) rfl e8 ?_
      refine E_ps 6 (pc' := 40) (l' := [some (.ref x0), some (.int x1), some (.int x2), some (.int x3), some (.long v5), none]) (st' := [.ref x0, .int (((130 : Int32) * x1) + x3), .ref a7]) rfl ?_
      obtain ⟨a9, e10, h⟩ := Option.bind_eq_some_iff.mp h
      refine E_gr k0 (by decide) rfl e10 ?_
      refine E_ps 5 (pc' := 50) (l' := [some (.ref x0), some (.int x1), some (.int x2), some (.int x3), some (.long v5), none]) (st' := [.int (((130 : Int32) * x2) + x3), .ref a9, .int (((130 : Int32) * x1) + x3), .ref a7]) rfl ?_
      obtain ⟨v11, e12, h⟩ := Option.bind_eq_some_iff.mp h
      refine E_al e12 ?_
      obtain ⟨t13, e14, h⟩ := Option.bind_eq_some_iff.mp h
      refine E_wl e14 ?_
      refine E_ps 1 (pc' := 53) (l' := [some (.ref x0), some (.int x1), some (.int x2), some (.int x3), some (.long v5), none]) (st' := [.ref x0]) rfl ?_
      obtain ⟨a15, e16, h⟩ := Option.bind_eq_some_iff.mp h
      refine E_gr k0 (by decide) rfl e16 ?_
      refine E_ps 6 (pc' := 65) (l' := [some (.ref x0), some (.int x1), some (.int x2), some (.int x3), some (.long v5), none]) (st' := [.long v5, .int (((130 : Int32) * x2) + x3), .ref a15]) rfl ?_
      obtain ⟨t17, e18, h⟩ := Option.bind_eq_some_iff.mp h
      refine E_wl e18 ?_
      refine E_ps 1 (pc' := 69) (l' := [some (.ref x0), some (.int x1), some (.int x2), some (.int (x3 + (1 : Int32))), some (.long v5), none]) (st' := []) rfl ?_
      refine E_j rfl rfl ?_
      cases h
      exact E_wk (l' := [some (.ref x0), some (.int x1), some (.int x2), some (.int (x3 + (1 : Int32))), none, none]) ⟨rfl, rfl, rfl, rfl, trivial⟩ hr
theorem s241_2_w {sc : Option (Nat × (Nat → Int32))} {x0 : Nat} {x1 : Int32} {x2 : Int32} {x3 : Int32} {s : xS} {o : xH × Option Value} {r : (xS × Unit)} (k0 : oK x0 12 = true) (h : whl (fun q : (Int32 × xS) => f241_2 x0 x1 x2 q.1 q.2) (x3, s) = some r) (hr : dn241 o r) : Ev sc 1 241 [] 2 [some (.ref x0), some (.int x1), some (.int x2), some (.int x3), none, none] [] (hk_of s) o := by
  refine whl_snd (E := fun q : (Int32 × xS) => Ev sc 1 241 [] 2 [some (.ref x0), some (.int x1), some (.int x2), some (.int q.1), none, none] [] (hk_of q.2) o) (P := fun r => dn241 o r) (fun q r h hr => ?_) h hr
  exact s241_2 k0 h (by cases r <;> exact hr)
noncomputable def f241 (x0 : Nat) (x1 : Int32) (x2 : Int32) (s : xS) : Option (xS × Unit) := ifg (oK x0 12 = true) <| whl (fun q : (Int32 × xS) => f241_2 x0 x1 x2 q.1 q.2) ((0 : Int32), s)
set_option maxRecDepth 20000 in
theorem s241 {sc : Option (Nat × (Nat → Int32))} {x0 : Nat} {x1 : Int32} {x2 : Int32} {s : xS} {r : xS × Unit} (h : f241 x0 x1 x2 s = some r) : Cl sc 1 241 [.ref x0, .int x1, .int x2] (hk_of s) (hk_of r.1, none) := by
  unfold f241 at h
  obtain ⟨k0, h⟩ := ifg_some h
  refine ⟨pg_md 241, [some (.ref x0), some (.int x1), some (.int x2), none, none, none], pg_mt_md (by decide), (hk_rcv k0), rfl, ?_⟩
  generalize ho : ((hk_of r.1, none) : xH × Option Value) = o
  have hr : dn241 o r := ho.symm
  refine E_blk rfl ?_
  refine E_ps 2 (pc' := 2) (l' := [some (.ref x0), some (.int x1), some (.int x2), some (.int (0 : Int32)), none, none]) (st' := []) rfl ?_
  exact E_wk (l' := [some (.ref x0), some (.int x1), some (.int x2), some (.int (0 : Int32)), none, none]) ⟨rfl, rfl, rfl, rfl, trivial⟩ (s241_2_w k0 h hr)

-- 242: ThreePlatesModel.rank()I
def dn242 (o : xH × Option Value) (r : xS × Int32) : Prop := o = (hk_of r.1, some (.int r.2))
def dn242_4 (sc : Option (Nat × (Nat → Int32))) (x0 : Nat) (o : xH × Option Value) (r : ((Int32 × Int32 × xS) ⊕ (xS × Int32))) : Prop := match r with
  | .inl q => Ev sc 2 242 [] 4 [some (.ref x0), some (.int q.1), some (.int q.2.1), none, none, none, none, none, none, none] [] (hk_of q.2.2) o
  | .inr r => dn242 o r
def dn242_21 (sc : Option (Nat × (Nat → Int32))) (x0 : Nat) (x1 : Int32) (x2 : Int32) (o : xH × Option Value) (r : ((Int32 × xS) ⊕ ((Int32 × Int32 × xS) ⊕ (xS × Int32)))) : Prop := match r with
  | .inl q => Ev sc 2 242 [] 21 [some (.ref x0), some (.int x1), some (.int x2), some (.int q.1), none, none, none, none, none, none] [] (hk_of q.2) o
  | .inr r => dn242_4 sc x0 o r
def dn242_94 (sc : Option (Nat × (Nat → Int32))) (x0 : Nat) (x1 : Int32) (x2 : Int32) (x4 : Int64) (o : xH × Option Value) (r : ((Int32 × xS) ⊕ ((Int32 × Int32 × xS) ⊕ (xS × Int32)))) : Prop := match r with
  | .inl q => Ev sc 2 242 [] 94 [some (.ref x0), some (.int x1), some (.int x2), none, some (.long x4), none, some (.int q.1), none, none, none] [] (hk_of q.2) o
  | .inr r => dn242_4 sc x0 o r
def dn242_128 (sc : Option (Nat × (Nat → Int32))) (x0 : Nat) (x1 : Int32) (x2 : Int32) (x4 : Int64) (x6 : Int32) (x7 : Int64) (o : xH × Option Value) (r : ((Int32 × xS) ⊕ ((Int32 × xS) ⊕ ((Int32 × Int32 × xS) ⊕ (xS × Int32))))) : Prop := match r with
  | .inl q => Ev sc 2 242 [] 128 [some (.ref x0), some (.int x1), some (.int x2), none, some (.long x4), none, some (.int x6), some (.long x7), none, some (.int q.1)] [] (hk_of q.2) o
  | .inr r => dn242_94 sc x0 x1 x2 x4 o r
noncomputable def f242_202 (x0 : Nat) (x1 : Int32) (x2 : Int32) (x4 : Int64) (x6 : Int32) (s : xS) : Option ((Int32 × xS) ⊕ ((Int32 × Int32 × xS) ⊕ (xS × Int32))) := some (Sum.inl ((x6 + (1 : Int32)), s))
set_option maxRecDepth 20000 in
theorem s242_202 {sc : Option (Nat × (Nat → Int32))} {x0 : Nat} {x1 : Int32} {x2 : Int32} {x4 : Int64} {x6 : Int32} {s : xS} {o : xH × Option Value} {r : ((Int32 × xS) ⊕ ((Int32 × Int32 × xS) ⊕ (xS × Int32)))} (k0 : oK x0 12 = true) (h : f242_202 x0 x1 x2 x4 x6 s = some r) (hr : dn242_94 sc x0 x1 x2 x4 o r) : Ev sc 2 242 [] 202 [some (.ref x0), some (.int x1), some (.int x2), none, some (.long x4), none, some (.int x6), none, none, none] [] (hk_of s) o := by
  unfold f242_202 at h
  refine E_blk rfl ?_
  refine E_ps 1 (pc' := 205) (l' := [some (.ref x0), some (.int x1), some (.int x2), none, some (.long x4), none, some (.int (x6 + (1 : Int32))), none, none, none]) (st' := []) rfl ?_
  refine E_j rfl rfl ?_
  cases h
  exact E_wk (l' := [some (.ref x0), some (.int x1), some (.int x2), none, some (.long x4), none, some (.int (x6 + (1 : Int32))), none, none, none]) ⟨rfl, rfl, rfl, rfl, rfl, trivial⟩ hr
noncomputable def f242_128 (x0 : Nat) (x1 : Int32) (x2 : Int32) (x4 : Int64) (x6 : Int32) (x7 : Int64) (x9 : Int32) (s : xS) : Option ((Int32 × xS) ⊕ ((Int32 × xS) ⊕ ((Int32 × Int32 × xS) ⊕ (xS × Int32)))) := if (130 : Int32) ≤ x9 then (Option.map Sum.inr (f242_202 x0 x1 x2 x4 x6 s)) else (if (lg_cmp x7 (0 : Int64)) = 0 then (Option.map Sum.inr (f242_202 x0 x1 x2 x4 x6 s)) else ((hk_R x0 50).bind fun a3 => (hk_R x0 50).bind fun a5 => (aL s a5 (((130 : Int32) * x6) + x9)).bind fun v7 => (hk_R x0 50).bind fun a9 => (aL s a9 (((130 : Int32) * x1) + x9)).bind fun v11 => (wL s a3 (((130 : Int32) * x6) + x9) (lrm (v7 + (((1000003 : Int64) - x7) * v11)) (1000003 : Int64))).bind fun t13 => some (Sum.inl ((x9 + (1 : Int32)), t13))))
set_option maxRecDepth 20000 in
theorem s242_128 {sc : Option (Nat × (Nat → Int32))} {x0 : Nat} {x1 : Int32} {x2 : Int32} {x4 : Int64} {x6 : Int32} {x7 : Int64} {x9 : Int32} {s : xS} {o : xH × Option Value} {r : ((Int32 × xS) ⊕ ((Int32 × xS) ⊕ ((Int32 × Int32 × xS) ⊕ (xS × Int32))))} (k0 : oK x0 12 = true) (h : f242_128 x0 x1 x2 x4 x6 x7 x9 s = some r) (hr : dn242_128 sc x0 x1 x2 x4 x6 x7 o r) : Ev sc 2 242 [] 128 [some (.ref x0), some (.int x1), some (.int x2), none, some (.long x4), none, some (.int x6), some (.long x7), none, some (.int x9)] [] (hk_of s) o := by
  unfold f242_128 at h
  refine E_blk rfl ?_
  refine E_ps 2 (pc' := 133) (l' := [some (.ref x0), some (.int x1), some (.int x2), none, some (.long x4), none, some (.int x6), some (.long x7), none, some (.int x9)]) (st' := [.int (130 : Int32), .int x9]) rfl ?_
  by_cases c1 : (130 : Int32) ≤ x9
  · rw [if_pos c1] at h
    refine E_jt rfl rfl c1 ?_
    obtain ⟨r, h, hr⟩ := lf_some (Dn := dn242_128 sc x0 x1 x2 x4 x6 x7 o) h hr
    exact E_wk (l' := [some (.ref x0), some (.int x1), some (.int x2), none, some (.long x4), none, some (.int x6), none, none, none]) ⟨rfl, rfl, rfl, rfl, rfl, trivial⟩ (s242_202 k0 h hr)
  · rw [if_neg c1] at h
    refine E_jf rfl rfl c1 ?_
    refine E_blk rfl ?_
    refine E_ps 3 (pc' := 140) (l' := [some (.ref x0), some (.int x1), some (.int x2), none, some (.long x4), none, some (.int x6), some (.long x7), none, some (.int x9)]) (st' := [.int (lg_cmp x7 (0 : Int64))]) rfl ?_
    by_cases c2 : (lg_cmp x7 (0 : Int64)) = 0
    · rw [if_pos c2] at h
      refine E_jt rfl rfl c2 ?_
      obtain ⟨r, h, hr⟩ := lf_some (Dn := dn242_128 sc x0 x1 x2 x4 x6 x7 o) h hr
      exact E_wk (l' := [some (.ref x0), some (.int x1), some (.int x2), none, some (.long x4), none, some (.int x6), none, none, none]) ⟨rfl, rfl, rfl, rfl, rfl, trivial⟩ (s242_202 k0 h hr)
    · rw [if_neg c2] at h
      refine E_jf rfl rfl c2 ?_
      refine E_blk rfl ?_
      refine E_ps 1 (pc' := 144) (l' := [some (.ref x0), some (.int x1), some (.int x2), none, some (.long x4), none, some (.int x6), some (.long x7), none, some (.int x9)]) (st' := [.ref x0]) rfl ?_
      obtain ⟨a3, e4, h⟩ := Option.bind_eq_some_iff.mp h
      refine E_gr k0 (by decide) rfl e4 ?_
      refine E_ps 6 (pc' := 157) (l' := [some (.ref x0), some (.int x1), some (.int x2), none, some (.long x4), none, some (.int x6), some (.long x7), none, some (.int x9)]) (st' := [.ref x0, .int (((130 : Int32) * x6) + x9), .ref a3]) rfl ?_
      obtain ⟨a5, e6, h⟩ := Option.bind_eq_some_iff.mp h
      refine E_gr k0 (by decide) rfl e6 ?_
      refine E_ps 5 (pc' := 169) (l' := [some (.ref x0), some (.int x1), some (.int x2), none, some (.long x4), none, some (.int x6), some (.long x7), none, some (.int x9)]) (st' := [.int (((130 : Int32) * x6) + x9), .ref a5, .int (((130 : Int32) * x6) + x9), .ref a3]) rfl ?_
      obtain ⟨v7, e8, h⟩ := Option.bind_eq_some_iff.mp h
      refine E_al e8 ?_
      refine E_ps 4 (pc' := 177) (l' := [some (.ref x0), some (.int x1), some (.int x2), none, some (.long x4), none, some (.int x6), some (.long x7), none, some (.int x9)]) (st' := [.ref x0, .long ((1000003 : Int64) - x7), .long v7, .int (((130 : Int32) * x6) + x9), .ref a3]) rfl ?_
      obtain ⟨a9, e10, h⟩ := Option.bind_eq_some_iff.mp h
      refine E_gr k0 (by decide) rfl e10 ?_
      refine E_ps 5 (pc' := 188) (l' := [some (.ref x0), some (.int x1), some (.int x2), none, some (.long x4), none, some (.int x6), some (.long x7), none, some (.int x9)]) (st' := [.int (((130 : Int32) * x1) + x9), .ref a9, .long ((1000003 : Int64) - x7), .long v7, .int (((130 : Int32) * x6) + x9), .ref a3]) rfl ?_
      obtain ⟨v11, e12, h⟩ := Option.bind_eq_some_iff.mp h
      refine E_al e12 ?_
      refine E_ps 3 (pc' := 194) (l' := [some (.ref x0), some (.int x1), some (.int x2), none, some (.long x4), none, some (.int x6), some (.long x7), none, some (.int x9)]) (st' := [.long (1000003 : Int64), .long (v7 + (((1000003 : Int64) - x7) * v11)), .int (((130 : Int32) * x6) + x9), .ref a3]) rfl ?_
      refine E_lrem (by decide) ?_
      obtain ⟨t13, e14, h⟩ := Option.bind_eq_some_iff.mp h
      refine E_wl e14 ?_
      refine E_ps 1 (pc' := 199) (l' := [some (.ref x0), some (.int x1), some (.int x2), none, some (.long x4), none, some (.int x6), some (.long x7), none, some (.int (x9 + (1 : Int32)))]) (st' := []) rfl ?_
      refine E_j rfl rfl ?_
      cases h
      exact E_wk (l' := [some (.ref x0), some (.int x1), some (.int x2), none, some (.long x4), none, some (.int x6), some (.long x7), none, some (.int (x9 + (1 : Int32)))]) ⟨rfl, rfl, rfl, rfl, rfl, rfl, rfl, trivial⟩ hr
theorem s242_128_w {sc : Option (Nat × (Nat → Int32))} {x0 : Nat} {x1 : Int32} {x2 : Int32} {x4 : Int64} {x6 : Int32} {x7 : Int64} {x9 : Int32} {s : xS} {o : xH × Option Value} {r : ((Int32 × xS) ⊕ ((Int32 × Int32 × xS) ⊕ (xS × Int32)))} (k0 : oK x0 12 = true) (h : whl (fun q : (Int32 × xS) => f242_128 x0 x1 x2 x4 x6 x7 q.1 q.2) (x9, s) = some r) (hr : dn242_94 sc x0 x1 x2 x4 o r) : Ev sc 2 242 [] 128 [some (.ref x0), some (.int x1), some (.int x2), none, some (.long x4), none, some (.int x6), some (.long x7), none, some (.int x9)] [] (hk_of s) o := by
  refine whl_snd (E := fun q : (Int32 × xS) => Ev sc 2 242 [] 128 [some (.ref x0), some (.int x1), some (.int x2), none, some (.long x4), none, some (.int x6), some (.long x7), none, some (.int q.1)] [] (hk_of q.2) o) (P := fun r => dn242_94 sc x0 x1 x2 x4 o r) (fun q r h hr => ?_) h hr
  exact s242_128 k0 h (by cases r <;> exact hr)
noncomputable def f242_217 (x1 : Int32) (s : xS) : Option (xS × Int32) := some (s, x1)
set_option maxRecDepth 20000 in
theorem s242_217 {sc : Option (Nat × (Nat → Int32))} {x1 : Int32} {s : xS} {o : xH × Option Value} {r : (xS × Int32)}  (h : f242_217 x1 s = some r) (hr : dn242 o r) : Ev sc 2 242 [] 217 [none, some (.int x1), none, none, none, none, none, none, none, none] [] (hk_of s) o := by
  unfold f242_217 at h
  refine E_blk rfl ?_
  refine E_ps 1 (pc' := 218) (l' := [none, some (.int x1), none, none, none, none, none, none, none, none]) (st' := [.int x1]) rfl ?_
  cases h
  exact E_ret rfl (pg_mt_md (by decide)) rfl hr
noncomputable def f242_211 (x0 : Nat) (x1 : Int32) (x2 : Int32) (s : xS) : Option ((Int32 × Int32 × xS) ⊕ (xS × Int32)) := some (Sum.inl (x1, (x2 + (1 : Int32)), s))
set_option maxRecDepth 20000 in
theorem s242_211 {sc : Option (Nat × (Nat → Int32))} {x0 : Nat} {x1 : Int32} {x2 : Int32} {s : xS} {o : xH × Option Value} {r : ((Int32 × Int32 × xS) ⊕ (xS × Int32))} (k0 : oK x0 12 = true) (h : f242_211 x0 x1 x2 s = some r) (hr : dn242_4 sc x0 o r) : Ev sc 2 242 [] 211 [some (.ref x0), some (.int x1), some (.int x2), none, none, none, none, none, none, none] [] (hk_of s) o := by
  unfold f242_211 at h
  refine E_blk rfl ?_
  refine E_ps 1 (pc' := 214) (l' := [some (.ref x0), some (.int x1), some (.int (x2 + (1 : Int32))), none, none, none, none, none, none, none]) (st' := []) rfl ?_
  refine E_j rfl rfl ?_
  cases h
  exact E_wk (l' := [some (.ref x0), some (.int x1), some (.int (x2 + (1 : Int32))), none, none, none, none, none, none, none]) ⟨rfl, rfl, rfl, trivial⟩ hr
noncomputable def f242_94 (x0 : Nat) (x1 : Int32) (x2 : Int32) (x4 : Int64) (x6 : Int32) (s : xS) : Option ((Int32 × xS) ⊕ ((Int32 × Int32 × xS) ⊕ (xS × Int32))) := if (s.1 x0 51) ≤ x6 then (Option.map Sum.inr (f242_211 x0 (x1 + (1 : Int32)) x2 s)) else ((hk_R x0 50).bind fun a2 => (aL s a2 (((130 : Int32) * x6) + x2)).bind fun v4 => whl (fun q : (Int32 × xS) => f242_128 x0 x1 x2 x4 x6 (lrm (v4 * x4) (1000003 : Int64)) q.1 q.2) (x2, s))
set_option maxRecDepth 20000 in
theorem s242_94 {sc : Option (Nat × (Nat → Int32))} {x0 : Nat} {x1 : Int32} {x2 : Int32} {x4 : Int64} {x6 : Int32} {s : xS} {o : xH × Option Value} {r : ((Int32 × xS) ⊕ ((Int32 × Int32 × xS) ⊕ (xS × Int32)))} (k0 : oK x0 12 = true) (h : f242_94 x0 x1 x2 x4 x6 s = some r) (hr : dn242_94 sc x0 x1 x2 x4 o r) : Ev sc 2 242 [] 94 [some (.ref x0), some (.int x1), some (.int x2), none, some (.long x4), none, some (.int x6), none, none, none] [] (hk_of s) o := by
  unfold f242_94 at h
  refine E_blk rfl ?_
  refine E_ps 2 (pc' := 97) (l' := [some (.ref x0), some (.int x1), some (.int x2), none, some (.long x4), none, some (.int x6), none, none, none]) (st' := [.ref x0, .int x6]) rfl ?_
  refine E_gi k0 (by decide) rfl ?_
  by_cases c1 : (s.1 x0 51) ≤ x6
  · rw [if_pos c1] at h
    refine E_jt rfl rfl c1 ?_
    obtain ⟨r, h, hr⟩ := lf_some (Dn := dn242_94 sc x0 x1 x2 x4 o) h hr
    refine E_blk rfl ?_
    refine E_ps 1 (pc' := 211) (l' := [some (.ref x0), some (.int (x1 + (1 : Int32))), some (.int x2), none, some (.long x4), none, some (.int x6), none, none, none]) (st' := []) rfl ?_
    exact E_wk (l' := [some (.ref x0), some (.int (x1 + (1 : Int32))), some (.int x2), none, none, none, none, none, none, none]) ⟨rfl, rfl, rfl, trivial⟩ (s242_211 k0 h hr)
  · rw [if_neg c1] at h
    refine E_jf rfl rfl c1 ?_
    refine E_blk rfl ?_
    refine E_ps 1 (pc' := 104) (l' := [some (.ref x0), some (.int x1), some (.int x2), none, some (.long x4), none, some (.int x6), none, none, none]) (st' := [.ref x0]) rfl ?_
    obtain ⟨a2, e3, h⟩ := Option.bind_eq_some_iff.mp h
    refine E_gr k0 (by decide) rfl e3 ?_
    refine E_ps 5 (pc' := 115) (l' := [some (.ref x0), some (.int x1), some (.int x2), none, some (.long x4), none, some (.int x6), none, none, none]) (st' := [.int (((130 : Int32) * x6) + x2), .ref a2]) rfl ?_
    obtain ⟨v4, e5, h⟩ := Option.bind_eq_some_iff.mp h
    refine E_al e5 ?_
    refine E_ps 3 (pc' := 122) (l' := [some (.ref x0), some (.int x1), some (.int x2), none, some (.long x4), none, some (.int x6), none, none, none]) (st' := [.long (1000003 : Int64), .long (v4 * x4)]) rfl ?_
    refine E_lrem (by decide) ?_
    refine E_ps 3 (pc' := 128) (l' := [some (.ref x0), some (.int x1), some (.int x2), none, some (.long x4), none, some (.int x6), some (.long (lrm (v4 * x4) (1000003 : Int64))), none, some (.int x2)]) (st' := []) rfl ?_
    exact E_wk (l' := [some (.ref x0), some (.int x1), some (.int x2), none, some (.long x4), none, some (.int x6), some (.long (lrm (v4 * x4) (1000003 : Int64))), none, some (.int x2)]) ⟨rfl, rfl, rfl, rfl, rfl, rfl, rfl, trivial⟩ (s242_128_w k0 h hr)
theorem s242_94_w {sc : Option (Nat × (Nat → Int32))} {x0 : Nat} {x1 : Int32} {x2 : Int32} {x4 : Int64} {x6 : Int32} {s : xS} {o : xH × Option Value} {r : ((Int32 × Int32 × xS) ⊕ (xS × Int32))} (k0 : oK x0 12 = true) (h : whl (fun q : (Int32 × xS) => f242_94 x0 x1 x2 x4 q.1 q.2) (x6, s) = some r) (hr : dn242_4 sc x0 o r) : Ev sc 2 242 [] 94 [some (.ref x0), some (.int x1), some (.int x2), none, some (.long x4), none, some (.int x6), none, none, none] [] (hk_of s) o := by
  refine whl_snd (E := fun q : (Int32 × xS) => Ev sc 2 242 [] 94 [some (.ref x0), some (.int x1), some (.int x2), none, some (.long x4), none, some (.int q.1), none, none, none] [] (hk_of q.2) o) (P := fun r => dn242_4 sc x0 o r) (fun q r h hr => ?_) h hr
  exact s242_94 k0 h (by cases r <;> exact hr)
noncomputable def f242_52 (x0 : Nat) (x1 : Int32) (x2 : Int32) (x3 : Int32) (s : xS) : Option ((Int32 × Int32 × xS) ⊕ (xS × Int32)) := if x3 = (s.1 x0 51) then (f242_211 x0 x1 x2 s) else ((f241 x0 x3 x1 s).bind fun z2 => (hk_R x0 50).bind fun a4 => (aL z2.1 a4 (((130 : Int32) * x1) + x2)).bind fun v6 => (f239 v6 (1000001 : Int32) z2.1).bind fun z8 => whl (fun q : (Int32 × xS) => f242_94 x0 x1 x2 z8.2 q.1 q.2) ((x1 + (1 : Int32)), z8.1))
set_option maxRecDepth 20000 in
theorem s242_52 {sc : Option (Nat × (Nat → Int32))} {x0 : Nat} {x1 : Int32} {x2 : Int32} {x3 : Int32} {s : xS} {o : xH × Option Value} {r : ((Int32 × Int32 × xS) ⊕ (xS × Int32))} (k0 : oK x0 12 = true) (h : f242_52 x0 x1 x2 x3 s = some r) (hr : dn242_4 sc x0 o r) : Ev sc 2 242 [] 52 [some (.ref x0), some (.int x1), some (.int x2), some (.int x3), none, none, none, none, none, none] [] (hk_of s) o := by
  unfold f242_52 at h
  refine E_blk rfl ?_
  refine E_ps 2 (pc' := 54) (l' := [some (.ref x0), some (.int x1), some (.int x2), some (.int x3), none, none, none, none, none, none]) (st' := [.ref x0, .int x3]) rfl ?_
  refine E_gi k0 (by decide) rfl ?_
  by_cases c1 : x3 = (s.1 x0 51)
  · rw [if_pos c1] at h
    refine E_jt rfl rfl c1 ?_
    refine E_blk rfl ?_
    refine E_j rfl rfl ?_
    exact E_wk (l' := [some (.ref x0), some (.int x1), some (.int x2), none, none, none, none, none, none, none]) ⟨rfl, rfl, rfl, trivial⟩ (s242_211 k0 h hr)
  · rw [if_neg c1] at h
    refine E_jf rfl rfl c1 ?_
    refine E_blk rfl ?_
    refine E_ps 3 (pc' := 66) (l' := [some (.ref x0), some (.int x1), some (.int x2), some (.int x3), none, none, none, none, none, none]) (st' := [.int x1, .int x3, .ref x0]) rfl ?_
    obtain ⟨z2, e3, h⟩ := Option.bind_eq_some_iff.mp h
    refine E_callV (vs := [.ref x0, .int x3, .int x1]) (rest := []) rfl (by decide) rfl rfl (Nat.le_of_ble_eq_true rfl) (s241 e3) (by decide) ?_
    refine E_ps 1 (pc' := 70) (l' := [some (.ref x0), some (.int x1), some (.int x2), some (.int x3), none, none, none, none, none, none]) (st' := [.ref x0]) rfl ?_
    obtain ⟨a4, e5, h⟩ := Option.bind_eq_some_iff.mp h
    refine E_gr k0 (by decide) rfl e5 ?_
    refine E_ps 5 (pc' := 80) (l' := [some (.ref x0), some (.int x1), some (.int x2), some (.int x3), none, none, none, none, none, none]) (st' := [.int (((130 : Int32) * x1) + x2), .ref a4]) rfl ?_
    obtain ⟨v6, e7, h⟩ := Option.bind_eq_some_iff.mp h
    refine E_al e7 ?_
    refine E_ps 1 (pc' := 84) (l' := [some (.ref x0), some (.int x1), some (.int x2), some (.int x3), none, none, none, none, none, none]) (st' := [.int (1000001 : Int32), .long v6]) rfl ?_
    obtain ⟨z8, e9, h⟩ := Option.bind_eq_some_iff.mp h
    refine E_callL (vs := [.long v6, .int (1000001 : Int32)]) (rest := []) rfl (by decide) rfl rfl (Nat.le_of_ble_eq_true rfl) (s239 e9) (by decide) ?_
    refine E_ps 5 (pc' := 94) (l' := [some (.ref x0), some (.int x1), some (.int x2), some (.int x3), some (.long z8.2), none, some (.int (x1 + (1 : Int32))), none, none, none]) (st' := []) rfl ?_
    exact E_wk (l' := [some (.ref x0), some (.int x1), some (.int x2), none, some (.long z8.2), none, some (.int (x1 + (1 : Int32))), none, none, none]) ⟨rfl, rfl, rfl, rfl, rfl, trivial⟩ (s242_94_w k0 h hr)
noncomputable def f242_21 (x0 : Nat) (x1 : Int32) (x2 : Int32) (x3 : Int32) (s : xS) : Option ((Int32 × xS) ⊕ ((Int32 × Int32 × xS) ⊕ (xS × Int32))) := if (s.1 x0 51) ≤ x3 then (Option.map Sum.inr (f242_52 x0 x1 x2 x3 s)) else ((hk_R x0 50).bind fun a2 => (aL s a2 (((130 : Int32) * x3) + x2)).bind fun v4 => if (lg_cmp v4 (0 : Int64)) = 0 then (some (Sum.inl ((x3 + (1 : Int32)), s))) else (Option.map Sum.inr (f242_52 x0 x1 x2 x3 s)))
set_option maxRecDepth 20000 in
theorem s242_21 {sc : Option (Nat × (Nat → Int32))} {x0 : Nat} {x1 : Int32} {x2 : Int32} {x3 : Int32} {s : xS} {o : xH × Option Value} {r : ((Int32 × xS) ⊕ ((Int32 × Int32 × xS) ⊕ (xS × Int32)))} (k0 : oK x0 12 = true) (h : f242_21 x0 x1 x2 x3 s = some r) (hr : dn242_21 sc x0 x1 x2 o r) : Ev sc 2 242 [] 21 [some (.ref x0), some (.int x1), some (.int x2), some (.int x3), none, none, none, none, none, none] [] (hk_of s) o := by
  unfold f242_21 at h
  refine E_blk rfl ?_
  refine E_ps 2 (pc' := 23) (l' := [some (.ref x0), some (.int x1), some (.int x2), some (.int x3), none, none, none, none, none, none]) (st' := [.ref x0, .int x3]) rfl ?_
  refine E_gi k0 (by decide) rfl ?_
  by_cases c1 : (s.1 x0 51) ≤ x3
  · rw [if_pos c1] at h
    refine E_jt rfl rfl c1 ?_
    obtain ⟨r, h, hr⟩ := lf_some (Dn := dn242_21 sc x0 x1 x2 o) h hr
    exact E_wk (l' := [some (.ref x0), some (.int x1), some (.int x2), some (.int x3), none, none, none, none, none, none]) ⟨rfl, rfl, rfl, rfl, trivial⟩ (s242_52 k0 h hr)
  · rw [if_neg c1] at h
    refine E_jf rfl rfl c1 ?_
    refine E_blk rfl ?_
    refine E_ps 1 (pc' := 30) (l' := [some (.ref x0), some (.int x1), some (.int x2), some (.int x3), none, none, none, none, none, none]) (st' := [.ref x0]) rfl ?_
    obtain ⟨a2, e3, h⟩ := Option.bind_eq_some_iff.mp h
    refine E_gr k0 (by decide) rfl e3 ?_
    refine E_ps 5 (pc' := 40) (l' := [some (.ref x0), some (.int x1), some (.int x2), some (.int x3), none, none, none, none, none, none]) (st' := [.int (((130 : Int32) * x3) + x2), .ref a2]) rfl ?_
    obtain ⟨v4, e5, h⟩ := Option.bind_eq_some_iff.mp h
    refine E_al e5 ?_
    refine E_ps 2 (pc' := 43) (l' := [some (.ref x0), some (.int x1), some (.int x2), some (.int x3), none, none, none, none, none, none]) (st' := [.int (lg_cmp v4 (0 : Int64))]) rfl ?_
    by_cases c6 : (lg_cmp v4 (0 : Int64)) = 0
    · rw [if_pos c6] at h
      refine E_jt rfl rfl c6 ?_
      refine E_blk rfl ?_
      refine E_ps 1 (pc' := 49) (l' := [some (.ref x0), some (.int x1), some (.int x2), some (.int (x3 + (1 : Int32))), none, none, none, none, none, none]) (st' := []) rfl ?_
      refine E_j rfl rfl ?_
      cases h
      exact E_wk (l' := [some (.ref x0), some (.int x1), some (.int x2), some (.int (x3 + (1 : Int32))), none, none, none, none, none, none]) ⟨rfl, rfl, rfl, rfl, trivial⟩ hr
    · rw [if_neg c6] at h
      refine E_jf rfl rfl c6 ?_
      obtain ⟨r, h, hr⟩ := lf_some (Dn := dn242_21 sc x0 x1 x2 o) h hr
      exact E_wk (l' := [some (.ref x0), some (.int x1), some (.int x2), some (.int x3), none, none, none, none, none, none]) ⟨rfl, rfl, rfl, rfl, trivial⟩ (s242_52 k0 h hr)
theorem s242_21_w {sc : Option (Nat × (Nat → Int32))} {x0 : Nat} {x1 : Int32} {x2 : Int32} {x3 : Int32} {s : xS} {o : xH × Option Value} {r : ((Int32 × Int32 × xS) ⊕ (xS × Int32))} (k0 : oK x0 12 = true) (h : whl (fun q : (Int32 × xS) => f242_21 x0 x1 x2 q.1 q.2) (x3, s) = some r) (hr : dn242_4 sc x0 o r) : Ev sc 2 242 [] 21 [some (.ref x0), some (.int x1), some (.int x2), some (.int x3), none, none, none, none, none, none] [] (hk_of s) o := by
  refine whl_snd (E := fun q : (Int32 × xS) => Ev sc 2 242 [] 21 [some (.ref x0), some (.int x1), some (.int x2), some (.int q.1), none, none, none, none, none, none] [] (hk_of q.2) o) (P := fun r => dn242_4 sc x0 o r) (fun q r h hr => ?_) h hr
  exact s242_21 k0 h (by cases r <;> exact hr)
noncomputable def f242_4 (x0 : Nat) (x1 : Int32) (x2 : Int32) (s : xS) : Option ((Int32 × Int32 × xS) ⊕ (xS × Int32)) := if (130 : Int32) ≤ x2 then (Option.map Sum.inr (f242_217 x1 s)) else (if (s.1 x0 51) ≤ x1 then (Option.map Sum.inr (f242_217 x1 s)) else (whl (fun q : (Int32 × xS) => f242_21 x0 x1 x2 q.1 q.2) (x1, s)))
set_option maxRecDepth 20000 in
theorem s242_4 {sc : Option (Nat × (Nat → Int32))} {x0 : Nat} {x1 : Int32} {x2 : Int32} {s : xS} {o : xH × Option Value} {r : ((Int32 × Int32 × xS) ⊕ (xS × Int32))} (k0 : oK x0 12 = true) (h : f242_4 x0 x1 x2 s = some r) (hr : dn242_4 sc x0 o r) : Ev sc 2 242 [] 4 [some (.ref x0), some (.int x1), some (.int x2), none, none, none, none, none, none, none] [] (hk_of s) o := by
  unfold f242_4 at h
  refine E_blk rfl ?_
  refine E_ps 2 (pc' := 8) (l' := [some (.ref x0), some (.int x1), some (.int x2), none, none, none, none, none, none, none]) (st' := [.int (130 : Int32), .int x2]) rfl ?_
  by_cases c1 : (130 : Int32) ≤ x2
  · rw [if_pos c1] at h
    refine E_jt rfl rfl c1 ?_
    obtain ⟨r, h, hr⟩ := lf_some (Dn := dn242_4 sc x0 o) h hr
    exact E_wk (l' := [none, some (.int x1), none, none, none, none, none, none, none, none]) ⟨rfl, trivial⟩ (s242_217  h hr)
  · rw [if_neg c1] at h
    refine E_jf rfl rfl c1 ?_
    refine E_blk rfl ?_
    refine E_ps 2 (pc' := 13) (l' := [some (.ref x0), some (.int x1), some (.int x2), none, none, none, none, none, none, none]) (st' := [.ref x0, .int x1]) rfl ?_
    refine E_gi k0 (by decide) rfl ?_
    by_cases c2 : (s.1 x0 51) ≤ x1
    · rw [if_pos c2] at h
      refine E_jt rfl rfl c2 ?_
      obtain ⟨r, h, hr⟩ := lf_some (Dn := dn242_4 sc x0 o) h hr
      exact E_wk (l' := [none, some (.int x1), none, none, none, none, none, none, none, none]) ⟨rfl, trivial⟩ (s242_217  h hr)
    · rw [if_neg c2] at h
      refine E_jf rfl rfl c2 ?_
      refine E_blk rfl ?_
      refine E_ps 2 (pc' := 21) (l' := [some (.ref x0), some (.int x1), some (.int x2), some (.int x1), none, none, none, none, none, none]) (st' := []) rfl ?_
      exact E_wk (l' := [some (.ref x0), some (.int x1), some (.int x2), some (.int x1), none, none, none, none, none, none]) ⟨rfl, rfl, rfl, rfl, trivial⟩ (s242_21_w k0 h hr)
theorem s242_4_w {sc : Option (Nat × (Nat → Int32))} {x0 : Nat} {x1 : Int32} {x2 : Int32} {s : xS} {o : xH × Option Value} {r : (xS × Int32)} (k0 : oK x0 12 = true) (h : whl (fun q : (Int32 × Int32 × xS) => f242_4 x0 q.1 q.2.1 q.2.2) (x1, x2, s) = some r) (hr : dn242 o r) : Ev sc 2 242 [] 4 [some (.ref x0), some (.int x1), some (.int x2), none, none, none, none, none, none, none] [] (hk_of s) o := by
  refine whl_snd (E := fun q : (Int32 × Int32 × xS) => Ev sc 2 242 [] 4 [some (.ref x0), some (.int q.1), some (.int q.2.1), none, none, none, none, none, none, none] [] (hk_of q.2.2) o) (P := fun r => dn242 o r) (fun q r h hr => ?_) h hr
  exact s242_4 k0 h (by cases r <;> exact hr)
noncomputable def f242 (x0 : Nat) (s : xS) : Option (xS × Int32) := ifg (oK x0 12 = true) <| whl (fun q : (Int32 × Int32 × xS) => f242_4 x0 q.1 q.2.1 q.2.2) ((0 : Int32), (0 : Int32), s)
set_option maxRecDepth 20000 in
theorem s242 {sc : Option (Nat × (Nat → Int32))} {x0 : Nat} {s : xS} {r : xS × Int32} (h : f242 x0 s = some r) : Cl sc 2 242 [.ref x0] (hk_of s) (hk_of r.1, some (.int r.2)) := by
  unfold f242 at h
  obtain ⟨k0, h⟩ := ifg_some h
  refine ⟨pg_md 242, [some (.ref x0), none, none, none, none, none, none, none, none, none], pg_mt_md (by decide), (hk_rcv k0), rfl, ?_⟩
  generalize ho : ((hk_of r.1, some (Value.int r.2)) : xH × Option Value) = o
  have hr : dn242 o r := ho.symm
  refine E_blk rfl ?_
  refine E_ps 4 (pc' := 4) (l' := [some (.ref x0), some (.int (0 : Int32)), some (.int (0 : Int32)), none, none, none, none, none, none, none]) (st' := []) rfl ?_
  exact E_wk (l' := [some (.ref x0), some (.int (0 : Int32)), some (.int (0 : Int32)), none, none, none, none, none, none, none]) ⟨rfl, rfl, rfl, trivial⟩ (s242_4_w k0 h hr)

-- 243: ThreePlatesModel.hidden()I
def dn243 (o : xH × Option Value) (r : xS × Int32) : Prop := o = (hk_of r.1, some (.int r.2))
noncomputable def f243 (x0 : Nat) (s : xS) : Option (xS × Int32) := ifg (oK x0 12 = true) <| (f240 x0 s).bind fun z1 => (hk_R x0 12).bind fun a3 => (aI z1.1 a3 (z1.1.1 x0 25)).bind fun v5 => (f197 x0 z1.1).bind fun z7 => (f242 x0 z7.1).bind fun z9 => (hk_R x0 12).bind fun a11 => (aI z9.1 a11 (z9.1.1 x0 25)).bind fun v13 => some (z9.1, ((((v5 * z7.2) + ((3 : Int32) * (z7.1.1 x0 37))) - z9.2) - ((3 : Int32) * v13)))
set_option maxRecDepth 20000 in
theorem s243 {sc : Option (Nat × (Nat → Int32))} {x0 : Nat} {s : xS} {r : xS × Int32} (h : f243 x0 s = some r) : Cl sc 6 243 [.ref x0] (hk_of s) (hk_of r.1, some (.int r.2)) := by
  unfold f243 at h
  obtain ⟨k0, h⟩ := ifg_some h
  refine ⟨pg_md 243, [some (.ref x0)], pg_mt_md (by decide), (hk_rcv k0), rfl, ?_⟩
  generalize ho : ((hk_of r.1, some (Value.int r.2)) : xH × Option Value) = o
  have hr : dn243 o r := ho.symm
  refine E_blk rfl ?_
  refine E_ps 1 (pc' := 1) (l' := [some (.ref x0)]) (st' := [.ref x0]) rfl ?_
  obtain ⟨z1, e2, h⟩ := Option.bind_eq_some_iff.mp h
  refine E_callV (vs := [.ref x0]) (rest := []) rfl (by decide) rfl rfl (Nat.le_of_ble_eq_true rfl) (s240 e2) (by decide) ?_
  refine E_ps 1 (pc' := 5) (l' := [some (.ref x0)]) (st' := [.ref x0]) rfl ?_
  obtain ⟨a3, e4, h⟩ := Option.bind_eq_some_iff.mp h
  refine E_gr k0 (by decide) rfl e4 ?_
  refine E_ps 1 (pc' := 9) (l' := [some (.ref x0)]) (st' := [.ref x0, .ref a3]) rfl ?_
  refine E_gi k0 (by decide) rfl ?_
  obtain ⟨v5, e6, h⟩ := Option.bind_eq_some_iff.mp h
  refine E_ai e6 ?_
  refine E_ps 1 (pc' := 14) (l' := [some (.ref x0)]) (st' := [.ref x0, .int v5]) rfl ?_
  obtain ⟨z7, e8, h⟩ := Option.bind_eq_some_iff.mp h
  refine E_callI (vs := [.ref x0]) (rest := [.int v5]) rfl (by decide) rfl rfl (Nat.le_of_ble_eq_true rfl) (s197 e8) (by decide) ?_
  refine E_ps 3 (pc' := 20) (l' := [some (.ref x0)]) (st' := [.ref x0, .int (3 : Int32), .int (v5 * z7.2)]) rfl ?_
  refine E_gi k0 (by decide) rfl ?_
  refine E_ps 3 (pc' := 26) (l' := [some (.ref x0)]) (st' := [.ref x0, .int ((v5 * z7.2) + ((3 : Int32) * (z7.1.1 x0 37)))]) rfl ?_
  obtain ⟨z9, e10, h⟩ := Option.bind_eq_some_iff.mp h
  refine E_callI (vs := [.ref x0]) (rest := [.int ((v5 * z7.2) + ((3 : Int32) * (z7.1.1 x0 37)))]) rfl (by decide) rfl rfl (Nat.le_of_ble_eq_true rfl) (s242 e10) (by decide) ?_
  refine E_ps 3 (pc' := 32) (l' := [some (.ref x0)]) (st' := [.ref x0, .int (3 : Int32), .int (((v5 * z7.2) + ((3 : Int32) * (z7.1.1 x0 37))) - z9.2)]) rfl ?_
  obtain ⟨a11, e12, h⟩ := Option.bind_eq_some_iff.mp h
  refine E_gr k0 (by decide) rfl e12 ?_
  refine E_ps 1 (pc' := 36) (l' := [some (.ref x0)]) (st' := [.ref x0, .ref a11, .int (3 : Int32), .int (((v5 * z7.2) + ((3 : Int32) * (z7.1.1 x0 37))) - z9.2)]) rfl ?_
  refine E_gi k0 (by decide) rfl ?_
  obtain ⟨v13, e14, h⟩ := Option.bind_eq_some_iff.mp h
  refine E_ai e14 ?_
  refine E_ps 2 (pc' := 42) (l' := [some (.ref x0)]) (st' := [.int ((((v5 * z7.2) + ((3 : Int32) * (z7.1.1 x0 37))) - z9.2) - ((3 : Int32) * v13))]) rfl ?_
  cases h
  exact E_ret rfl (pg_mt_md (by decide)) rfl hr

-- 244: ThreePlatesModel.hides()I
def dn244 (o : xH × Option Value) (r : xS × Int32) : Prop := o = (hk_of r.1, some (.int r.2))
def dn244_11 (sc : Option (Nat × (Nat → Int32))) (x0 : Nat) (o : xH × Option Value) (r : ((Int32 × xS) ⊕ (xS × Int32))) : Prop := match r with
  | .inl q => Ev sc 6 244 [] 11 [some (.ref x0), some (.int q.1), none] [] (hk_of q.2) o
  | .inr r => dn244 o r
def dn244_55 (sc : Option (Nat × (Nat → Int32))) (x0 : Nat) (x1 : Int32) (o : xH × Option Value) (r : ((Int32 × xS) ⊕ ((Int32 × xS) ⊕ (xS × Int32)))) : Prop := match r with
  | .inl q => Ev sc 6 244 [] 55 [some (.ref x0), some (.int x1), some (.int q.1)] [] (hk_of q.2) o
  | .inr r => dn244_11 sc x0 o r
noncomputable def f244_82 (x0 : Nat) (x1 : Int32) (x2 : Int32) (s : xS) : Option ((Int32 × xS) ⊕ ((Int32 × xS) ⊕ (xS × Int32))) := some (Sum.inl ((x2 + (1 : Int32)), s))
set_option maxRecDepth 20000 in
theorem s244_82 {sc : Option (Nat × (Nat → Int32))} {x0 : Nat} {x1 : Int32} {x2 : Int32} {s : xS} {o : xH × Option Value} {r : ((Int32 × xS) ⊕ ((Int32 × xS) ⊕ (xS × Int32)))} (k0 : oK x0 12 = true) (h : f244_82 x0 x1 x2 s = some r) (hr : dn244_55 sc x0 x1 o r) : Ev sc 6 244 [] 82 [some (.ref x0), some (.int x1), some (.int x2)] [] (hk_of s) o := by
  unfold f244_82 at h
  refine E_blk rfl ?_
  refine E_ps 1 (pc' := 85) (l' := [some (.ref x0), some (.int x1), some (.int (x2 + (1 : Int32)))]) (st' := []) rfl ?_
  refine E_j rfl rfl ?_
  cases h
  exact E_wk (l' := [some (.ref x0), some (.int x1), some (.int (x2 + (1 : Int32)))]) ⟨rfl, rfl, rfl, trivial⟩ hr
noncomputable def f244_55 (x0 : Nat) (x1 : Int32) (x2 : Int32) (s : xS) : Option ((Int32 × xS) ⊕ ((Int32 × xS) ⊕ (xS × Int32))) := (f197 x0 s).bind fun z1 => if z1.2 ≤ x2 then (Option.map Sum.inr (some (Sum.inl ((x1 + (1 : Int32)), z1.1)))) else ((hk_R x0 39).bind fun a4 => (aI z1.1 a4 x2).bind fun v6 => if v6 < 0 then (f244_82 x0 x1 x2 z1.1) else ((f214 x0 x2 z1.1).bind fun z9 => if z9.2 = 0 then (Option.map Sum.inr (Option.map Sum.inr (some (z9.1, (0 : Int32))))) else (f244_82 x0 x1 x2 z9.1)))
set_option maxRecDepth 20000 in
theorem s244_55 {sc : Option (Nat × (Nat → Int32))} {x0 : Nat} {x1 : Int32} {x2 : Int32} {s : xS} {o : xH × Option Value} {r : ((Int32 × xS) ⊕ ((Int32 × xS) ⊕ (xS × Int32)))} (k0 : oK x0 12 = true) (h : f244_55 x0 x1 x2 s = some r) (hr : dn244_55 sc x0 x1 o r) : Ev sc 6 244 [] 55 [some (.ref x0), some (.int x1), some (.int x2)] [] (hk_of s) o := by
  unfold f244_55 at h
  refine E_blk rfl ?_
  refine E_ps 2 (pc' := 57) (l' := [some (.ref x0), some (.int x1), some (.int x2)]) (st' := [.ref x0, .int x2]) rfl ?_
  obtain ⟨z1, e2, h⟩ := Option.bind_eq_some_iff.mp h
  refine E_callI (vs := [.ref x0]) (rest := [.int x2]) rfl (by decide) rfl rfl (Nat.le_of_ble_eq_true rfl) (s197 e2) (by decide) ?_
  by_cases c3 : z1.2 ≤ x2
  · rw [if_pos c3] at h
    refine E_jt rfl rfl c3 ?_
    obtain ⟨r, h, hr⟩ := lf_some (Dn := dn244_55 sc x0 x1 o) h hr
    refine E_blk rfl ?_
    refine E_ps 1 (pc' := 91) (l' := [some (.ref x0), some (.int (x1 + (1 : Int32))), some (.int x2)]) (st' := []) rfl ?_
    refine E_j rfl rfl ?_
    cases h
    exact E_wk (l' := [some (.ref x0), some (.int (x1 + (1 : Int32))), none]) ⟨rfl, rfl, trivial⟩ hr
  · rw [if_neg c3] at h
    refine E_jf rfl rfl c3 ?_
    refine E_blk rfl ?_
    refine E_ps 1 (pc' := 64) (l' := [some (.ref x0), some (.int x1), some (.int x2)]) (st' := [.ref x0]) rfl ?_
    obtain ⟨a4, e5, h⟩ := Option.bind_eq_some_iff.mp h
    refine E_gr k0 (by decide) rfl e5 ?_
    refine E_ps 1 (pc' := 68) (l' := [some (.ref x0), some (.int x1), some (.int x2)]) (st' := [.int x2, .ref a4]) rfl ?_
    obtain ⟨v6, e7, h⟩ := Option.bind_eq_some_iff.mp h
    refine E_ai e7 ?_
    by_cases c8 : v6 < 0
    · rw [if_pos c8] at h
      refine E_jt rfl rfl c8 ?_
      exact E_wk (l' := [some (.ref x0), some (.int x1), some (.int x2)]) ⟨rfl, rfl, rfl, trivial⟩ (s244_82 k0 h hr)
    · rw [if_neg c8] at h
      refine E_jf rfl rfl c8 ?_
      refine E_blk rfl ?_
      refine E_ps 2 (pc' := 74) (l' := [some (.ref x0), some (.int x1), some (.int x2)]) (st' := [.int x2, .ref x0]) rfl ?_
      obtain ⟨z9, e10, h⟩ := Option.bind_eq_some_iff.mp h
      refine E_callI (vs := [.ref x0, .int x2]) (rest := []) rfl (by decide) rfl rfl (Nat.le_of_ble_eq_true rfl) (s214 e10) (by decide) ?_
      by_cases c11 : z9.2 = 0
      · rw [if_pos c11] at h
        refine E_jt rfl rfl c11 ?_
        obtain ⟨r, h, hr⟩ := lf_some (Dn := dn244_55 sc x0 x1 o) h hr
        obtain ⟨r, h, hr⟩ := lf_some (Dn := dn244_11 sc x0 o) h hr
        refine E_blk rfl ?_
        refine E_ps 1 (pc' := 81) (l' := [some (.ref x0), some (.int x1), some (.int x2)]) (st' := [.int (0 : Int32)]) rfl ?_
        cases h
        exact E_ret rfl (pg_mt_md (by decide)) rfl hr
      · rw [if_neg c11] at h
        refine E_jf rfl rfl c11 ?_
        exact E_wk (l' := [some (.ref x0), some (.int x1), some (.int x2)]) ⟨rfl, rfl, rfl, trivial⟩ (s244_82 k0 h hr)
theorem s244_55_w {sc : Option (Nat × (Nat → Int32))} {x0 : Nat} {x1 : Int32} {x2 : Int32} {s : xS} {o : xH × Option Value} {r : ((Int32 × xS) ⊕ (xS × Int32))} (k0 : oK x0 12 = true) (h : whl (fun q : (Int32 × xS) => f244_55 x0 x1 q.1 q.2) (x2, s) = some r) (hr : dn244_11 sc x0 o r) : Ev sc 6 244 [] 55 [some (.ref x0), some (.int x1), some (.int x2)] [] (hk_of s) o := by
  refine whl_snd (E := fun q : (Int32 × xS) => Ev sc 6 244 [] 55 [some (.ref x0), some (.int x1), some (.int q.1)] [] (hk_of q.2) o) (P := fun r => dn244_11 sc x0 o r) (fun q r h hr => ?_) h hr
  exact s244_55 k0 h (by cases r <;> exact hr)
noncomputable def f244_11 (x0 : Nat) (x1 : Int32) (s : xS) : Option ((Int32 × xS) ⊕ (xS × Int32)) := if (s.1 x0 37) ≤ x1 then (Option.map Sum.inr (some (s, (1 : Int32)))) else ((hk_R x0 31).bind fun a2 => (aI s a2 x1).bind fun v4 => (hk_R x0 30).bind fun a6 => (aI s a6 x1).bind fun v8 => (hk_R x0 32).bind fun a10 => (aI s a10 x1).bind fun v12 => (hk_R x0 33).bind fun a14 => (aI s a14 x1).bind fun v16 => (hk_R x0 34).bind fun a18 => (aI s a18 x1).bind fun v20 => (f219 x0 v4 v8 v12 v16 v20 s).bind fun z22 => whl (fun q : (Int32 × xS) => f244_55 x0 x1 q.1 q.2) ((0 : Int32), z22.1))
set_option maxRecDepth 20000 in
theorem s244_11 {sc : Option (Nat × (Nat → Int32))} {x0 : Nat} {x1 : Int32} {s : xS} {o : xH × Option Value} {r : ((Int32 × xS) ⊕ (xS × Int32))} (k0 : oK x0 12 = true) (h : f244_11 x0 x1 s = some r) (hr : dn244_11 sc x0 o r) : Ev sc 6 244 [] 11 [some (.ref x0), some (.int x1), none] [] (hk_of s) o := by
  unfold f244_11 at h
  refine E_blk rfl ?_
  refine E_ps 2 (pc' := 13) (l' := [some (.ref x0), some (.int x1), none]) (st' := [.ref x0, .int x1]) rfl ?_
  refine E_gi k0 (by decide) rfl ?_
  by_cases c1 : (s.1 x0 37) ≤ x1
  · rw [if_pos c1] at h
    refine E_jt rfl rfl c1 ?_
    obtain ⟨r, h, hr⟩ := lf_some (Dn := dn244_11 sc x0 o) h hr
    refine E_blk rfl ?_
    refine E_ps 1 (pc' := 95) (l' := [some (.ref x0), some (.int x1), none]) (st' := [.int (1 : Int32)]) rfl ?_
    cases h
    exact E_ret rfl (pg_mt_md (by decide)) rfl hr
  · rw [if_neg c1] at h
    refine E_jf rfl rfl c1 ?_
    refine E_blk rfl ?_
    refine E_ps 2 (pc' := 21) (l' := [some (.ref x0), some (.int x1), none]) (st' := [.ref x0, .ref x0]) rfl ?_
    obtain ⟨a2, e3, h⟩ := Option.bind_eq_some_iff.mp h
    refine E_gr k0 (by decide) rfl e3 ?_
    refine E_ps 1 (pc' := 25) (l' := [some (.ref x0), some (.int x1), none]) (st' := [.int x1, .ref a2, .ref x0]) rfl ?_
    obtain ⟨v4, e5, h⟩ := Option.bind_eq_some_iff.mp h
    refine E_ai e5 ?_
    refine E_ps 1 (pc' := 27) (l' := [some (.ref x0), some (.int x1), none]) (st' := [.ref x0, .int v4, .ref x0]) rfl ?_
    obtain ⟨a6, e7, h⟩ := Option.bind_eq_some_iff.mp h
    refine E_gr k0 (by decide) rfl e7 ?_
    refine E_ps 1 (pc' := 31) (l' := [some (.ref x0), some (.int x1), none]) (st' := [.int x1, .ref a6, .int v4, .ref x0]) rfl ?_
    obtain ⟨v8, e9, h⟩ := Option.bind_eq_some_iff.mp h
    refine E_ai e9 ?_
    refine E_ps 1 (pc' := 33) (l' := [some (.ref x0), some (.int x1), none]) (st' := [.ref x0, .int v8, .int v4, .ref x0]) rfl ?_
    obtain ⟨a10, e11, h⟩ := Option.bind_eq_some_iff.mp h
    refine E_gr k0 (by decide) rfl e11 ?_
    refine E_ps 1 (pc' := 37) (l' := [some (.ref x0), some (.int x1), none]) (st' := [.int x1, .ref a10, .int v8, .int v4, .ref x0]) rfl ?_
    obtain ⟨v12, e13, h⟩ := Option.bind_eq_some_iff.mp h
    refine E_ai e13 ?_
    refine E_ps 1 (pc' := 39) (l' := [some (.ref x0), some (.int x1), none]) (st' := [.ref x0, .int v12, .int v8, .int v4, .ref x0]) rfl ?_
    obtain ⟨a14, e15, h⟩ := Option.bind_eq_some_iff.mp h
    refine E_gr k0 (by decide) rfl e15 ?_
    refine E_ps 1 (pc' := 43) (l' := [some (.ref x0), some (.int x1), none]) (st' := [.int x1, .ref a14, .int v12, .int v8, .int v4, .ref x0]) rfl ?_
    obtain ⟨v16, e17, h⟩ := Option.bind_eq_some_iff.mp h
    refine E_ai e17 ?_
    refine E_ps 1 (pc' := 45) (l' := [some (.ref x0), some (.int x1), none]) (st' := [.ref x0, .int v16, .int v12, .int v8, .int v4, .ref x0]) rfl ?_
    obtain ⟨a18, e19, h⟩ := Option.bind_eq_some_iff.mp h
    refine E_gr k0 (by decide) rfl e19 ?_
    refine E_ps 1 (pc' := 49) (l' := [some (.ref x0), some (.int x1), none]) (st' := [.int x1, .ref a18, .int v16, .int v12, .int v8, .int v4, .ref x0]) rfl ?_
    obtain ⟨v20, e21, h⟩ := Option.bind_eq_some_iff.mp h
    refine E_ai e21 ?_
    obtain ⟨z22, e23, h⟩ := Option.bind_eq_some_iff.mp h
    refine E_callV (vs := [.ref x0, .int v4, .int v8, .int v12, .int v16, .int v20]) (rest := []) rfl (by decide) rfl rfl (Nat.le_of_ble_eq_true rfl) (s219 e23) (by decide) ?_
    refine E_ps 2 (pc' := 55) (l' := [some (.ref x0), some (.int x1), some (.int (0 : Int32))]) (st' := []) rfl ?_
    exact E_wk (l' := [some (.ref x0), some (.int x1), some (.int (0 : Int32))]) ⟨rfl, rfl, rfl, trivial⟩ (s244_55_w k0 h hr)
theorem s244_11_w {sc : Option (Nat × (Nat → Int32))} {x0 : Nat} {x1 : Int32} {s : xS} {o : xH × Option Value} {r : (xS × Int32)} (k0 : oK x0 12 = true) (h : whl (fun q : (Int32 × xS) => f244_11 x0 q.1 q.2) (x1, s) = some r) (hr : dn244 o r) : Ev sc 6 244 [] 11 [some (.ref x0), some (.int x1), none] [] (hk_of s) o := by
  refine whl_snd (E := fun q : (Int32 × xS) => Ev sc 6 244 [] 11 [some (.ref x0), some (.int q.1), none] [] (hk_of q.2) o) (P := fun r => dn244 o r) (fun q r h hr => ?_) h hr
  exact s244_11 k0 h (by cases r <;> exact hr)
noncomputable def f244 (x0 : Nat) (s : xS) : Option (xS × Int32) := ifg (oK x0 12 = true) <| if (s.1 x0 37) = 0 then (some (s, (-1 : Int32))) else (whl (fun q : (Int32 × xS) => f244_11 x0 q.1 q.2) ((0 : Int32), s))
set_option maxRecDepth 20000 in
theorem s244 {sc : Option (Nat × (Nat → Int32))} {x0 : Nat} {s : xS} {r : xS × Int32} (h : f244 x0 s = some r) : Cl sc 6 244 [.ref x0] (hk_of s) (hk_of r.1, some (.int r.2)) := by
  unfold f244 at h
  obtain ⟨k0, h⟩ := ifg_some h
  refine ⟨pg_md 244, [some (.ref x0), none, none], pg_mt_md (by decide), (hk_rcv k0), rfl, ?_⟩
  generalize ho : ((hk_of r.1, some (Value.int r.2)) : xH × Option Value) = o
  have hr : dn244 o r := ho.symm
  refine E_blk rfl ?_
  refine E_ps 1 (pc' := 1) (l' := [some (.ref x0), none, none]) (st' := [.ref x0]) rfl ?_
  refine E_gi k0 (by decide) rfl ?_
  by_cases c1 : (s.1 x0 37) = 0
  · rw [if_pos c1] at h
    refine E_jt rfl rfl c1 ?_
    refine E_blk rfl ?_
    refine E_ps 1 (pc' := 8) (l' := [some (.ref x0), none, none]) (st' := [.int (-1 : Int32)]) rfl ?_
    cases h
    exact E_ret rfl (pg_mt_md (by decide)) rfl hr
  · rw [if_neg c1] at h
    refine E_jf rfl rfl c1 ?_
    refine E_blk rfl ?_
    refine E_ps 2 (pc' := 11) (l' := [some (.ref x0), some (.int (0 : Int32)), none]) (st' := []) rfl ?_
    exact E_wk (l' := [some (.ref x0), some (.int (0 : Int32)), none]) ⟨rfl, rfl, trivial⟩ (s244_11_w k0 h hr)

-- 245: ThreePlatesModel.keep(I)V
def dn245 (o : xH × Option Value) (r : xS × Unit) : Prop := o = (hk_of r.1, none)
def dn245_17 (sc : Option (Nat × (Nat → Int32))) (x0 : Nat) (x1 : Int32) (o : xH × Option Value) (r : ((Int32 × xS) ⊕ (xS × Unit))) : Prop := match r with
  | .inl q => Ev sc 1 245 [] 17 [some (.ref x0), some (.int x1), some (.int q.1)] [] (hk_of q.2) o
  | .inr r => dn245 o r
def dn245_65 (sc : Option (Nat × (Nat → Int32))) (x0 : Nat) (x1 : Int32) (o : xH × Option Value) (r : ((Int32 × xS) ⊕ (xS × Unit))) : Prop := match r with
  | .inl q => Ev sc 1 245 [] 65 [some (.ref x0), some (.int x1), some (.int q.1)] [] (hk_of q.2) o
  | .inr r => dn245 o r
def dn245_96 (sc : Option (Nat × (Nat → Int32))) (x0 : Nat) (x1 : Int32) (o : xH × Option Value) (r : ((Int32 × xS) ⊕ (xS × Unit))) : Prop := match r with
  | .inl q => Ev sc 1 245 [] 96 [some (.ref x0), some (.int x1), some (.int q.1)] [] (hk_of q.2) o
  | .inr r => dn245 o r
noncomputable def f245_96 (x0 : Nat) (x1 : Int32) (x2 : Int32) (s : xS) : Option ((Int32 × xS) ⊕ (xS × Unit)) := if (5 : Int32) ≤ x2 then (Option.map Sum.inr ((hk_R x0 55).bind fun a2 => (wI s a2 x1 (s.1 x0 27)).bind fun t4 => (hk_R x0 56).bind fun a6 => (wI t4 a6 x1 (t4.1 x0 28)).bind fun t8 => (hk_R x0 57).bind fun a10 => (wI t8 a10 x1 (t8.1 x0 29)).bind fun t12 => some (t12, ()))) else ((hk_R x0 59).bind fun a14 => (hk_R x0 23).bind fun a16 => (aI s a16 x2).bind fun v18 => (wI s a14 (((5 : Int32) * x1) + x2) v18).bind fun t20 => (hk_R x0 60).bind fun a22 => (hk_R x0 24).bind fun a24 => (aB t20 a24 x2).bind fun v26 => (wB t20 a22 (((5 : Int32) * x1) + x2) v26).bind fun t28 => some (Sum.inl ((x2 + (1 : Int32)), t28)))
set_option maxRecDepth 20000 in
theorem s245_96 {sc : Option (Nat × (Nat → Int32))} {x0 : Nat} {x1 : Int32} {x2 : Int32} {s : xS} {o : xH × Option Value} {r : ((Int32 × xS) ⊕ (xS × Unit))} (k0 : oK x0 12 = true) (h : f245_96 x0 x1 x2 s = some r) (hr : dn245_96 sc x0 x1 o r) : Ev sc 1 245 [] 96 [some (.ref x0), some (.int x1), some (.int x2)] [] (hk_of s) o := by
  unfold f245_96 at h
  refine E_blk rfl ?_
  refine E_ps 2 (pc' := 98) (l' := [some (.ref x0), some (.int x1), some (.int x2)]) (st' := [.int (5 : Int32), .int x2]) rfl ?_
  by_cases c1 : (5 : Int32) ≤ x2
  · rw [if_pos c1] at h
    refine E_jt rfl rfl c1 ?_
    obtain ⟨r, h, hr⟩ := lf_some (Dn := dn245_96 sc x0 x1 o) h hr
    refine E_blk rfl ?_
    refine E_ps 1 (pc' := 140) (l' := [some (.ref x0), some (.int x1), some (.int x2)]) (st' := [.ref x0]) rfl ?_
    obtain ⟨a2, e3, h⟩ := Option.bind_eq_some_iff.mp h
    refine E_gr k0 (by decide) rfl e3 ?_
    refine E_ps 2 (pc' := 145) (l' := [some (.ref x0), some (.int x1), some (.int x2)]) (st' := [.ref x0, .int x1, .ref a2]) rfl ?_
    refine E_gi k0 (by decide) rfl ?_
    obtain ⟨t4, e5, h⟩ := Option.bind_eq_some_iff.mp h
    refine E_wi e5 ?_
    refine E_ps 1 (pc' := 150) (l' := [some (.ref x0), some (.int x1), some (.int x2)]) (st' := [.ref x0]) rfl ?_
    obtain ⟨a6, e7, h⟩ := Option.bind_eq_some_iff.mp h
    refine E_gr k0 (by decide) rfl e7 ?_
    refine E_ps 2 (pc' := 155) (l' := [some (.ref x0), some (.int x1), some (.int x2)]) (st' := [.ref x0, .int x1, .ref a6]) rfl ?_
    refine E_gi k0 (by decide) rfl ?_
    obtain ⟨t8, e9, h⟩ := Option.bind_eq_some_iff.mp h
    refine E_wi e9 ?_
    refine E_ps 1 (pc' := 160) (l' := [some (.ref x0), some (.int x1), some (.int x2)]) (st' := [.ref x0]) rfl ?_
    obtain ⟨a10, e11, h⟩ := Option.bind_eq_some_iff.mp h
    refine E_gr k0 (by decide) rfl e11 ?_
    refine E_ps 2 (pc' := 165) (l' := [some (.ref x0), some (.int x1), some (.int x2)]) (st' := [.ref x0, .int x1, .ref a10]) rfl ?_
    refine E_gi k0 (by decide) rfl ?_
    obtain ⟨t12, e13, h⟩ := Option.bind_eq_some_iff.mp h
    refine E_wi e13 ?_
    cases h
    exact E_ret rfl (pg_mt_md (by decide)) rfl hr
  · rw [if_neg c1] at h
    refine E_jf rfl rfl c1 ?_
    refine E_blk rfl ?_
    refine E_ps 1 (pc' := 102) (l' := [some (.ref x0), some (.int x1), some (.int x2)]) (st' := [.ref x0]) rfl ?_
    obtain ⟨a14, e15, h⟩ := Option.bind_eq_some_iff.mp h
    refine E_gr k0 (by decide) rfl e15 ?_
    refine E_ps 6 (pc' := 111) (l' := [some (.ref x0), some (.int x1), some (.int x2)]) (st' := [.ref x0, .int (((5 : Int32) * x1) + x2), .ref a14]) rfl ?_
    obtain ⟨a16, e17, h⟩ := Option.bind_eq_some_iff.mp h
    refine E_gr k0 (by decide) rfl e17 ?_
    refine E_ps 1 (pc' := 115) (l' := [some (.ref x0), some (.int x1), some (.int x2)]) (st' := [.int x2, .ref a16, .int (((5 : Int32) * x1) + x2), .ref a14]) rfl ?_
    obtain ⟨v18, e19, h⟩ := Option.bind_eq_some_iff.mp h
    refine E_ai e19 ?_
    obtain ⟨t20, e21, h⟩ := Option.bind_eq_some_iff.mp h
    refine E_wi e21 ?_
    refine E_ps 1 (pc' := 118) (l' := [some (.ref x0), some (.int x1), some (.int x2)]) (st' := [.ref x0]) rfl ?_
    obtain ⟨a22, e23, h⟩ := Option.bind_eq_some_iff.mp h
    refine E_gr k0 (by decide) rfl e23 ?_
    refine E_ps 6 (pc' := 127) (l' := [some (.ref x0), some (.int x1), some (.int x2)]) (st' := [.ref x0, .int (((5 : Int32) * x1) + x2), .ref a22]) rfl ?_
    obtain ⟨a24, e25, h⟩ := Option.bind_eq_some_iff.mp h
    refine E_gr k0 (by decide) rfl e25 ?_
    refine E_ps 1 (pc' := 131) (l' := [some (.ref x0), some (.int x1), some (.int x2)]) (st' := [.int x2, .ref a24, .int (((5 : Int32) * x1) + x2), .ref a22]) rfl ?_
    obtain ⟨v26, e27, h⟩ := Option.bind_eq_some_iff.mp h
    refine E_ab e27 ?_
    obtain ⟨t28, e29, h⟩ := Option.bind_eq_some_iff.mp h
    refine E_wb e29 ?_
    refine E_ps 1 (pc' := 136) (l' := [some (.ref x0), some (.int x1), some (.int (x2 + (1 : Int32)))]) (st' := []) rfl ?_
    refine E_j rfl rfl ?_
    cases h
    exact E_wk (l' := [some (.ref x0), some (.int x1), some (.int (x2 + (1 : Int32)))]) ⟨rfl, rfl, rfl, trivial⟩ hr
theorem s245_96_w {sc : Option (Nat × (Nat → Int32))} {x0 : Nat} {x1 : Int32} {x2 : Int32} {s : xS} {o : xH × Option Value} {r : (xS × Unit)} (k0 : oK x0 12 = true) (h : whl (fun q : (Int32 × xS) => f245_96 x0 x1 q.1 q.2) (x2, s) = some r) (hr : dn245 o r) : Ev sc 1 245 [] 96 [some (.ref x0), some (.int x1), some (.int x2)] [] (hk_of s) o := by
  refine whl_snd (E := fun q : (Int32 × xS) => Ev sc 1 245 [] 96 [some (.ref x0), some (.int x1), some (.int q.1)] [] (hk_of q.2) o) (P := fun r => dn245 o r) (fun q r h hr => ?_) h hr
  exact s245_96 k0 h (by cases r <;> exact hr)
noncomputable def f245_65 (x0 : Nat) (x1 : Int32) (x2 : Int32) (s : xS) : Option ((Int32 × xS) ⊕ (xS × Unit)) := if (15 : Int32) ≤ x2 then (Option.map Sum.inr (whl (fun q : (Int32 × xS) => f245_96 x0 x1 q.1 q.2) ((0 : Int32), s))) else ((hk_R x0 58).bind fun a2 => (hk_R x0 22).bind fun a4 => (aI s a4 x2).bind fun v6 => (wI s a2 (((15 : Int32) * x1) + x2) v6).bind fun t8 => some (Sum.inl ((x2 + (1 : Int32)), t8)))
set_option maxRecDepth 20000 in
theorem s245_65 {sc : Option (Nat × (Nat → Int32))} {x0 : Nat} {x1 : Int32} {x2 : Int32} {s : xS} {o : xH × Option Value} {r : ((Int32 × xS) ⊕ (xS × Unit))} (k0 : oK x0 12 = true) (h : f245_65 x0 x1 x2 s = some r) (hr : dn245_65 sc x0 x1 o r) : Ev sc 1 245 [] 65 [some (.ref x0), some (.int x1), some (.int x2)] [] (hk_of s) o := by
  unfold f245_65 at h
  refine E_blk rfl ?_
  refine E_ps 2 (pc' := 68) (l' := [some (.ref x0), some (.int x1), some (.int x2)]) (st' := [.int (15 : Int32), .int x2]) rfl ?_
  by_cases c1 : (15 : Int32) ≤ x2
  · rw [if_pos c1] at h
    refine E_jt rfl rfl c1 ?_
    obtain ⟨r, h, hr⟩ := lf_some (Dn := dn245_65 sc x0 x1 o) h hr
    refine E_blk rfl ?_
    refine E_ps 2 (pc' := 96) (l' := [some (.ref x0), some (.int x1), some (.int (0 : Int32))]) (st' := []) rfl ?_
    exact E_wk (l' := [some (.ref x0), some (.int x1), some (.int (0 : Int32))]) ⟨rfl, rfl, rfl, trivial⟩ (s245_96_w k0 h hr)
  · rw [if_neg c1] at h
    refine E_jf rfl rfl c1 ?_
    refine E_blk rfl ?_
    refine E_ps 1 (pc' := 72) (l' := [some (.ref x0), some (.int x1), some (.int x2)]) (st' := [.ref x0]) rfl ?_
    obtain ⟨a2, e3, h⟩ := Option.bind_eq_some_iff.mp h
    refine E_gr k0 (by decide) rfl e3 ?_
    refine E_ps 6 (pc' := 82) (l' := [some (.ref x0), some (.int x1), some (.int x2)]) (st' := [.ref x0, .int (((15 : Int32) * x1) + x2), .ref a2]) rfl ?_
    obtain ⟨a4, e5, h⟩ := Option.bind_eq_some_iff.mp h
    refine E_gr k0 (by decide) rfl e5 ?_
    refine E_ps 1 (pc' := 86) (l' := [some (.ref x0), some (.int x1), some (.int x2)]) (st' := [.int x2, .ref a4, .int (((15 : Int32) * x1) + x2), .ref a2]) rfl ?_
    obtain ⟨v6, e7, h⟩ := Option.bind_eq_some_iff.mp h
    refine E_ai e7 ?_
    obtain ⟨t8, e9, h⟩ := Option.bind_eq_some_iff.mp h
    refine E_wi e9 ?_
    refine E_ps 1 (pc' := 91) (l' := [some (.ref x0), some (.int x1), some (.int (x2 + (1 : Int32)))]) (st' := []) rfl ?_
    refine E_j rfl rfl ?_
    cases h
    exact E_wk (l' := [some (.ref x0), some (.int x1), some (.int (x2 + (1 : Int32)))]) ⟨rfl, rfl, rfl, trivial⟩ hr
theorem s245_65_w {sc : Option (Nat × (Nat → Int32))} {x0 : Nat} {x1 : Int32} {x2 : Int32} {s : xS} {o : xH × Option Value} {r : (xS × Unit)} (k0 : oK x0 12 = true) (h : whl (fun q : (Int32 × xS) => f245_65 x0 x1 q.1 q.2) (x2, s) = some r) (hr : dn245 o r) : Ev sc 1 245 [] 65 [some (.ref x0), some (.int x1), some (.int x2)] [] (hk_of s) o := by
  refine whl_snd (E := fun q : (Int32 × xS) => Ev sc 1 245 [] 65 [some (.ref x0), some (.int x1), some (.int q.1)] [] (hk_of q.2) o) (P := fun r => dn245 o r) (fun q r h hr => ?_) h hr
  exact s245_65 k0 h (by cases r <;> exact hr)
noncomputable def f245_17 (x0 : Nat) (x1 : Int32) (x2 : Int32) (s : xS) : Option ((Int32 × xS) ⊕ (xS × Unit)) := if (100 : Int32) ≤ x2 then (Option.map Sum.inr (whl (fun q : (Int32 × xS) => f245_65 x0 x1 q.1 q.2) ((0 : Int32), s))) else ((hk_R x0 53).bind fun a2 => (hk_R x0 20).bind fun a4 => (aI s a4 x2).bind fun v6 => (wI s a2 (((100 : Int32) * x1) + x2) v6).bind fun t8 => (hk_R x0 54).bind fun a10 => (hk_R x0 21).bind fun a12 => (aI t8 a12 x2).bind fun v14 => (wI t8 a10 (((100 : Int32) * x1) + x2) v14).bind fun t16 => some (Sum.inl ((x2 + (1 : Int32)), t16)))
set_option maxRecDepth 20000 in
theorem s245_17 {sc : Option (Nat × (Nat → Int32))} {x0 : Nat} {x1 : Int32} {x2 : Int32} {s : xS} {o : xH × Option Value} {r : ((Int32 × xS) ⊕ (xS × Unit))} (k0 : oK x0 12 = true) (h : f245_17 x0 x1 x2 s = some r) (hr : dn245_17 sc x0 x1 o r) : Ev sc 1 245 [] 17 [some (.ref x0), some (.int x1), some (.int x2)] [] (hk_of s) o := by
  unfold f245_17 at h
  refine E_blk rfl ?_
  refine E_ps 2 (pc' := 20) (l' := [some (.ref x0), some (.int x1), some (.int x2)]) (st' := [.int (100 : Int32), .int x2]) rfl ?_
  by_cases c1 : (100 : Int32) ≤ x2
  · rw [if_pos c1] at h
    refine E_jt rfl rfl c1 ?_
    obtain ⟨r, h, hr⟩ := lf_some (Dn := dn245_17 sc x0 x1 o) h hr
    refine E_blk rfl ?_
    refine E_ps 2 (pc' := 65) (l' := [some (.ref x0), some (.int x1), some (.int (0 : Int32))]) (st' := []) rfl ?_
    exact E_wk (l' := [some (.ref x0), some (.int x1), some (.int (0 : Int32))]) ⟨rfl, rfl, rfl, trivial⟩ (s245_65_w k0 h hr)
  · rw [if_neg c1] at h
    refine E_jf rfl rfl c1 ?_
    refine E_blk rfl ?_
    refine E_ps 1 (pc' := 24) (l' := [some (.ref x0), some (.int x1), some (.int x2)]) (st' := [.ref x0]) rfl ?_
    obtain ⟨a2, e3, h⟩ := Option.bind_eq_some_iff.mp h
    refine E_gr k0 (by decide) rfl e3 ?_
    refine E_ps 6 (pc' := 34) (l' := [some (.ref x0), some (.int x1), some (.int x2)]) (st' := [.ref x0, .int (((100 : Int32) * x1) + x2), .ref a2]) rfl ?_
    obtain ⟨a4, e5, h⟩ := Option.bind_eq_some_iff.mp h
    refine E_gr k0 (by decide) rfl e5 ?_
    refine E_ps 1 (pc' := 38) (l' := [some (.ref x0), some (.int x1), some (.int x2)]) (st' := [.int x2, .ref a4, .int (((100 : Int32) * x1) + x2), .ref a2]) rfl ?_
    obtain ⟨v6, e7, h⟩ := Option.bind_eq_some_iff.mp h
    refine E_ai e7 ?_
    obtain ⟨t8, e9, h⟩ := Option.bind_eq_some_iff.mp h
    refine E_wi e9 ?_
    refine E_ps 1 (pc' := 41) (l' := [some (.ref x0), some (.int x1), some (.int x2)]) (st' := [.ref x0]) rfl ?_
    obtain ⟨a10, e11, h⟩ := Option.bind_eq_some_iff.mp h
    refine E_gr k0 (by decide) rfl e11 ?_
    refine E_ps 6 (pc' := 51) (l' := [some (.ref x0), some (.int x1), some (.int x2)]) (st' := [.ref x0, .int (((100 : Int32) * x1) + x2), .ref a10]) rfl ?_
    obtain ⟨a12, e13, h⟩ := Option.bind_eq_some_iff.mp h
    refine E_gr k0 (by decide) rfl e13 ?_
    refine E_ps 1 (pc' := 55) (l' := [some (.ref x0), some (.int x1), some (.int x2)]) (st' := [.int x2, .ref a12, .int (((100 : Int32) * x1) + x2), .ref a10]) rfl ?_
    obtain ⟨v14, e15, h⟩ := Option.bind_eq_some_iff.mp h
    refine E_ai e15 ?_
    obtain ⟨t16, e17, h⟩ := Option.bind_eq_some_iff.mp h
    refine E_wi e17 ?_
    refine E_ps 1 (pc' := 60) (l' := [some (.ref x0), some (.int x1), some (.int (x2 + (1 : Int32)))]) (st' := []) rfl ?_
    refine E_j rfl rfl ?_
    cases h
    exact E_wk (l' := [some (.ref x0), some (.int x1), some (.int (x2 + (1 : Int32)))]) ⟨rfl, rfl, rfl, trivial⟩ hr
theorem s245_17_w {sc : Option (Nat × (Nat → Int32))} {x0 : Nat} {x1 : Int32} {x2 : Int32} {s : xS} {o : xH × Option Value} {r : (xS × Unit)} (k0 : oK x0 12 = true) (h : whl (fun q : (Int32 × xS) => f245_17 x0 x1 q.1 q.2) (x2, s) = some r) (hr : dn245 o r) : Ev sc 1 245 [] 17 [some (.ref x0), some (.int x1), some (.int x2)] [] (hk_of s) o := by
  refine whl_snd (E := fun q : (Int32 × xS) => Ev sc 1 245 [] 17 [some (.ref x0), some (.int x1), some (.int q.1)] [] (hk_of q.2) o) (P := fun r => dn245 o r) (fun q r h hr => ?_) h hr
  exact s245_17 k0 h (by cases r <;> exact hr)
noncomputable def f245 (x0 : Nat) (x1 : Int32) (s : xS) : Option (xS × Unit) := ifg (oK x0 12 = true) <| (hk_R x0 52).bind fun a1 => (hk_R x0 12).bind fun a3 => (aI s a3 (s.1 x0 25)).bind fun v5 => (wI s a1 x1 v5).bind fun t7 => whl (fun q : (Int32 × xS) => f245_17 x0 x1 q.1 q.2) ((0 : Int32), t7)
set_option maxRecDepth 20000 in
theorem s245 {sc : Option (Nat × (Nat → Int32))} {x0 : Nat} {x1 : Int32} {s : xS} {r : xS × Unit} (h : f245 x0 x1 s = some r) : Cl sc 1 245 [.ref x0, .int x1] (hk_of s) (hk_of r.1, none) := by
  unfold f245 at h
  obtain ⟨k0, h⟩ := ifg_some h
  refine ⟨pg_md 245, [some (.ref x0), some (.int x1), none], pg_mt_md (by decide), (hk_rcv k0), rfl, ?_⟩
  generalize ho : ((hk_of r.1, none) : xH × Option Value) = o
  have hr : dn245 o r := ho.symm
  refine E_blk rfl ?_
  refine E_ps 1 (pc' := 1) (l' := [some (.ref x0), some (.int x1), none]) (st' := [.ref x0]) rfl ?_
  obtain ⟨a1, e2, h⟩ := Option.bind_eq_some_iff.mp h
  refine E_gr k0 (by decide) rfl e2 ?_
  refine E_ps 2 (pc' := 6) (l' := [some (.ref x0), some (.int x1), none]) (st' := [.ref x0, .int x1, .ref a1]) rfl ?_
  obtain ⟨a3, e4, h⟩ := Option.bind_eq_some_iff.mp h
  refine E_gr k0 (by decide) rfl e4 ?_
  refine E_ps 1 (pc' := 10) (l' := [some (.ref x0), some (.int x1), none]) (st' := [.ref x0, .ref a3, .int x1, .ref a1]) rfl ?_
  refine E_gi k0 (by decide) rfl ?_
  obtain ⟨v5, e6, h⟩ := Option.bind_eq_some_iff.mp h
  refine E_ai e6 ?_
  obtain ⟨t7, e8, h⟩ := Option.bind_eq_some_iff.mp h
  refine E_wi e8 ?_
  refine E_ps 2 (pc' := 17) (l' := [some (.ref x0), some (.int x1), some (.int (0 : Int32))]) (st' := []) rfl ?_
  exact E_wk (l' := [some (.ref x0), some (.int x1), some (.int (0 : Int32))]) ⟨rfl, rfl, rfl, trivial⟩ (s245_17_w k0 h hr)

-- 246: ThreePlatesModel.bring(I)V
def dn246 (o : xH × Option Value) (r : xS × Unit) : Prop := o = (hk_of r.1, none)
def dn246_2 (sc : Option (Nat × (Nat → Int32))) (x0 : Nat) (x1 : Int32) (o : xH × Option Value) (r : ((Int32 × xS) ⊕ (xS × Unit))) : Prop := match r with
  | .inl q => Ev sc 1 246 [] 2 [some (.ref x0), some (.int x1), some (.int q.1)] [] (hk_of q.2) o
  | .inr r => dn246 o r
def dn246_50 (sc : Option (Nat × (Nat → Int32))) (x0 : Nat) (x1 : Int32) (o : xH × Option Value) (r : ((Int32 × xS) ⊕ (xS × Unit))) : Prop := match r with
  | .inl q => Ev sc 1 246 [] 50 [some (.ref x0), some (.int x1), some (.int q.1)] [] (hk_of q.2) o
  | .inr r => dn246 o r
def dn246_81 (sc : Option (Nat × (Nat → Int32))) (x0 : Nat) (x1 : Int32) (o : xH × Option Value) (r : ((Int32 × xS) ⊕ (xS × Unit))) : Prop := match r with
  | .inl q => Ev sc 1 246 [] 81 [some (.ref x0), some (.int x1), some (.int q.1)] [] (hk_of q.2) o
  | .inr r => dn246 o r
noncomputable def f246_81 (x0 : Nat) (x1 : Int32) (x2 : Int32) (s : xS) : Option ((Int32 × xS) ⊕ (xS × Unit)) := if (5 : Int32) ≤ x2 then (Option.map Sum.inr ((hk_R x0 55).bind fun a2 => (aI s a2 x1).bind fun v4 => (pI s x0 27 v4).bind fun t6 => (hk_R x0 56).bind fun a8 => (aI t6 a8 x1).bind fun v10 => (pI t6 x0 28 v10).bind fun t12 => (hk_R x0 57).bind fun a14 => (aI t12 a14 x1).bind fun v16 => (pI t12 x0 29 v16).bind fun t18 => some (t18, ()))) else ((hk_R x0 23).bind fun a20 => (hk_R x0 59).bind fun a22 => (aI s a22 (((5 : Int32) * x1) + x2)).bind fun v24 => (wI s a20 x2 v24).bind fun t26 => (hk_R x0 24).bind fun a28 => (hk_R x0 60).bind fun a30 => (aB t26 a30 (((5 : Int32) * x1) + x2)).bind fun v32 => (wB t26 a28 x2 v32).bind fun t34 => some (Sum.inl ((x2 + (1 : Int32)), t34)))
set_option maxRecDepth 20000 in
theorem s246_81 {sc : Option (Nat × (Nat → Int32))} {x0 : Nat} {x1 : Int32} {x2 : Int32} {s : xS} {o : xH × Option Value} {r : ((Int32 × xS) ⊕ (xS × Unit))} (k0 : oK x0 12 = true) (h : f246_81 x0 x1 x2 s = some r) (hr : dn246_81 sc x0 x1 o r) : Ev sc 1 246 [] 81 [some (.ref x0), some (.int x1), some (.int x2)] [] (hk_of s) o := by
  unfold f246_81 at h
  refine E_blk rfl ?_
  refine E_ps 2 (pc' := 83) (l' := [some (.ref x0), some (.int x1), some (.int x2)]) (st' := [.int (5 : Int32), .int x2]) rfl ?_
  by_cases c1 : (5 : Int32) ≤ x2
  · rw [if_pos c1] at h
    refine E_jt rfl rfl c1 ?_
    obtain ⟨r, h, hr⟩ := lf_some (Dn := dn246_81 sc x0 x1 o) h hr
    refine E_blk rfl ?_
    refine E_ps 2 (pc' := 126) (l' := [some (.ref x0), some (.int x1), some (.int x2)]) (st' := [.ref x0, .ref x0]) rfl ?_
    obtain ⟨a2, e3, h⟩ := Option.bind_eq_some_iff.mp h
    refine E_gr k0 (by decide) rfl e3 ?_
    refine E_ps 1 (pc' := 130) (l' := [some (.ref x0), some (.int x1), some (.int x2)]) (st' := [.int x1, .ref a2, .ref x0]) rfl ?_
    obtain ⟨v4, e5, h⟩ := Option.bind_eq_some_iff.mp h
    refine E_ai e5 ?_
    obtain ⟨t6, e7, h⟩ := Option.bind_eq_some_iff.mp h
    refine E_pi k0 (by decide) rfl e7 ?_
    refine E_ps 2 (pc' := 136) (l' := [some (.ref x0), some (.int x1), some (.int x2)]) (st' := [.ref x0, .ref x0]) rfl ?_
    obtain ⟨a8, e9, h⟩ := Option.bind_eq_some_iff.mp h
    refine E_gr k0 (by decide) rfl e9 ?_
    refine E_ps 1 (pc' := 140) (l' := [some (.ref x0), some (.int x1), some (.int x2)]) (st' := [.int x1, .ref a8, .ref x0]) rfl ?_
    obtain ⟨v10, e11, h⟩ := Option.bind_eq_some_iff.mp h
    refine E_ai e11 ?_
    obtain ⟨t12, e13, h⟩ := Option.bind_eq_some_iff.mp h
    refine E_pi k0 (by decide) rfl e13 ?_
    refine E_ps 2 (pc' := 146) (l' := [some (.ref x0), some (.int x1), some (.int x2)]) (st' := [.ref x0, .ref x0]) rfl ?_
    obtain ⟨a14, e15, h⟩ := Option.bind_eq_some_iff.mp h
    refine E_gr k0 (by decide) rfl e15 ?_
    refine E_ps 1 (pc' := 150) (l' := [some (.ref x0), some (.int x1), some (.int x2)]) (st' := [.int x1, .ref a14, .ref x0]) rfl ?_
    obtain ⟨v16, e17, h⟩ := Option.bind_eq_some_iff.mp h
    refine E_ai e17 ?_
    obtain ⟨t18, e19, h⟩ := Option.bind_eq_some_iff.mp h
    refine E_pi k0 (by decide) rfl e19 ?_
    cases h
    exact E_ret rfl (pg_mt_md (by decide)) rfl hr
  · rw [if_neg c1] at h
    refine E_jf rfl rfl c1 ?_
    refine E_blk rfl ?_
    refine E_ps 1 (pc' := 87) (l' := [some (.ref x0), some (.int x1), some (.int x2)]) (st' := [.ref x0]) rfl ?_
    obtain ⟨a20, e21, h⟩ := Option.bind_eq_some_iff.mp h
    refine E_gr k0 (by decide) rfl e21 ?_
    refine E_ps 2 (pc' := 92) (l' := [some (.ref x0), some (.int x1), some (.int x2)]) (st' := [.ref x0, .int x2, .ref a20]) rfl ?_
    obtain ⟨a22, e23, h⟩ := Option.bind_eq_some_iff.mp h
    refine E_gr k0 (by decide) rfl e23 ?_
    refine E_ps 5 (pc' := 100) (l' := [some (.ref x0), some (.int x1), some (.int x2)]) (st' := [.int (((5 : Int32) * x1) + x2), .ref a22, .int x2, .ref a20]) rfl ?_
    obtain ⟨v24, e25, h⟩ := Option.bind_eq_some_iff.mp h
    refine E_ai e25 ?_
    obtain ⟨t26, e27, h⟩ := Option.bind_eq_some_iff.mp h
    refine E_wi e27 ?_
    refine E_ps 1 (pc' := 103) (l' := [some (.ref x0), some (.int x1), some (.int x2)]) (st' := [.ref x0]) rfl ?_
    obtain ⟨a28, e29, h⟩ := Option.bind_eq_some_iff.mp h
    refine E_gr k0 (by decide) rfl e29 ?_
    refine E_ps 2 (pc' := 108) (l' := [some (.ref x0), some (.int x1), some (.int x2)]) (st' := [.ref x0, .int x2, .ref a28]) rfl ?_
    obtain ⟨a30, e31, h⟩ := Option.bind_eq_some_iff.mp h
    refine E_gr k0 (by decide) rfl e31 ?_
    refine E_ps 5 (pc' := 116) (l' := [some (.ref x0), some (.int x1), some (.int x2)]) (st' := [.int (((5 : Int32) * x1) + x2), .ref a30, .int x2, .ref a28]) rfl ?_
    obtain ⟨v32, e33, h⟩ := Option.bind_eq_some_iff.mp h
    refine E_ab e33 ?_
    obtain ⟨t34, e35, h⟩ := Option.bind_eq_some_iff.mp h
    refine E_wb e35 ?_
    refine E_ps 1 (pc' := 121) (l' := [some (.ref x0), some (.int x1), some (.int (x2 + (1 : Int32)))]) (st' := []) rfl ?_
    refine E_j rfl rfl ?_
    cases h
    exact E_wk (l' := [some (.ref x0), some (.int x1), some (.int (x2 + (1 : Int32)))]) ⟨rfl, rfl, rfl, trivial⟩ hr
theorem s246_81_w {sc : Option (Nat × (Nat → Int32))} {x0 : Nat} {x1 : Int32} {x2 : Int32} {s : xS} {o : xH × Option Value} {r : (xS × Unit)} (k0 : oK x0 12 = true) (h : whl (fun q : (Int32 × xS) => f246_81 x0 x1 q.1 q.2) (x2, s) = some r) (hr : dn246 o r) : Ev sc 1 246 [] 81 [some (.ref x0), some (.int x1), some (.int x2)] [] (hk_of s) o := by
  refine whl_snd (E := fun q : (Int32 × xS) => Ev sc 1 246 [] 81 [some (.ref x0), some (.int x1), some (.int q.1)] [] (hk_of q.2) o) (P := fun r => dn246 o r) (fun q r h hr => ?_) h hr
  exact s246_81 k0 h (by cases r <;> exact hr)
noncomputable def f246_50 (x0 : Nat) (x1 : Int32) (x2 : Int32) (s : xS) : Option ((Int32 × xS) ⊕ (xS × Unit)) := if (15 : Int32) ≤ x2 then (Option.map Sum.inr (whl (fun q : (Int32 × xS) => f246_81 x0 x1 q.1 q.2) ((0 : Int32), s))) else ((hk_R x0 22).bind fun a2 => (hk_R x0 58).bind fun a4 => (aI s a4 (((15 : Int32) * x1) + x2)).bind fun v6 => (wI s a2 x2 v6).bind fun t8 => some (Sum.inl ((x2 + (1 : Int32)), t8)))
set_option maxRecDepth 20000 in
theorem s246_50 {sc : Option (Nat × (Nat → Int32))} {x0 : Nat} {x1 : Int32} {x2 : Int32} {s : xS} {o : xH × Option Value} {r : ((Int32 × xS) ⊕ (xS × Unit))} (k0 : oK x0 12 = true) (h : f246_50 x0 x1 x2 s = some r) (hr : dn246_50 sc x0 x1 o r) : Ev sc 1 246 [] 50 [some (.ref x0), some (.int x1), some (.int x2)] [] (hk_of s) o := by
  unfold f246_50 at h
  refine E_blk rfl ?_
  refine E_ps 2 (pc' := 53) (l' := [some (.ref x0), some (.int x1), some (.int x2)]) (st' := [.int (15 : Int32), .int x2]) rfl ?_
  by_cases c1 : (15 : Int32) ≤ x2
  · rw [if_pos c1] at h
    refine E_jt rfl rfl c1 ?_
    obtain ⟨r, h, hr⟩ := lf_some (Dn := dn246_50 sc x0 x1 o) h hr
    refine E_blk rfl ?_
    refine E_ps 2 (pc' := 81) (l' := [some (.ref x0), some (.int x1), some (.int (0 : Int32))]) (st' := []) rfl ?_
    exact E_wk (l' := [some (.ref x0), some (.int x1), some (.int (0 : Int32))]) ⟨rfl, rfl, rfl, trivial⟩ (s246_81_w k0 h hr)
  · rw [if_neg c1] at h
    refine E_jf rfl rfl c1 ?_
    refine E_blk rfl ?_
    refine E_ps 1 (pc' := 57) (l' := [some (.ref x0), some (.int x1), some (.int x2)]) (st' := [.ref x0]) rfl ?_
    obtain ⟨a2, e3, h⟩ := Option.bind_eq_some_iff.mp h
    refine E_gr k0 (by decide) rfl e3 ?_
    refine E_ps 2 (pc' := 62) (l' := [some (.ref x0), some (.int x1), some (.int x2)]) (st' := [.ref x0, .int x2, .ref a2]) rfl ?_
    obtain ⟨a4, e5, h⟩ := Option.bind_eq_some_iff.mp h
    refine E_gr k0 (by decide) rfl e5 ?_
    refine E_ps 5 (pc' := 71) (l' := [some (.ref x0), some (.int x1), some (.int x2)]) (st' := [.int (((15 : Int32) * x1) + x2), .ref a4, .int x2, .ref a2]) rfl ?_
    obtain ⟨v6, e7, h⟩ := Option.bind_eq_some_iff.mp h
    refine E_ai e7 ?_
    obtain ⟨t8, e9, h⟩ := Option.bind_eq_some_iff.mp h
    refine E_wi e9 ?_
    refine E_ps 1 (pc' := 76) (l' := [some (.ref x0), some (.int x1), some (.int (x2 + (1 : Int32)))]) (st' := []) rfl ?_
    refine E_j rfl rfl ?_
    cases h
    exact E_wk (l' := [some (.ref x0), some (.int x1), some (.int (x2 + (1 : Int32)))]) ⟨rfl, rfl, rfl, trivial⟩ hr
theorem s246_50_w {sc : Option (Nat × (Nat → Int32))} {x0 : Nat} {x1 : Int32} {x2 : Int32} {s : xS} {o : xH × Option Value} {r : (xS × Unit)} (k0 : oK x0 12 = true) (h : whl (fun q : (Int32 × xS) => f246_50 x0 x1 q.1 q.2) (x2, s) = some r) (hr : dn246 o r) : Ev sc 1 246 [] 50 [some (.ref x0), some (.int x1), some (.int x2)] [] (hk_of s) o := by
  refine whl_snd (E := fun q : (Int32 × xS) => Ev sc 1 246 [] 50 [some (.ref x0), some (.int x1), some (.int q.1)] [] (hk_of q.2) o) (P := fun r => dn246 o r) (fun q r h hr => ?_) h hr
  exact s246_50 k0 h (by cases r <;> exact hr)
noncomputable def f246_2 (x0 : Nat) (x1 : Int32) (x2 : Int32) (s : xS) : Option ((Int32 × xS) ⊕ (xS × Unit)) := if (100 : Int32) ≤ x2 then (Option.map Sum.inr (whl (fun q : (Int32 × xS) => f246_50 x0 x1 q.1 q.2) ((0 : Int32), s))) else ((hk_R x0 20).bind fun a2 => (hk_R x0 53).bind fun a4 => (aI s a4 (((100 : Int32) * x1) + x2)).bind fun v6 => (wI s a2 x2 v6).bind fun t8 => (hk_R x0 21).bind fun a10 => (hk_R x0 54).bind fun a12 => (aI t8 a12 (((100 : Int32) * x1) + x2)).bind fun v14 => (wI t8 a10 x2 v14).bind fun t16 => some (Sum.inl ((x2 + (1 : Int32)), t16)))
set_option maxRecDepth 20000 in
theorem s246_2 {sc : Option (Nat × (Nat → Int32))} {x0 : Nat} {x1 : Int32} {x2 : Int32} {s : xS} {o : xH × Option Value} {r : ((Int32 × xS) ⊕ (xS × Unit))} (k0 : oK x0 12 = true) (h : f246_2 x0 x1 x2 s = some r) (hr : dn246_2 sc x0 x1 o r) : Ev sc 1 246 [] 2 [some (.ref x0), some (.int x1), some (.int x2)] [] (hk_of s) o := by
  unfold f246_2 at h
  refine E_blk rfl ?_
  refine E_ps 2 (pc' := 5) (l' := [some (.ref x0), some (.int x1), some (.int x2)]) (st' := [.int (100 : Int32), .int x2]) rfl ?_
  by_cases c1 : (100 : Int32) ≤ x2
  · rw [if_pos c1] at h
    refine E_jt rfl rfl c1 ?_
    obtain ⟨r, h, hr⟩ := lf_some (Dn := dn246_2 sc x0 x1 o) h hr
    refine E_blk rfl ?_
    refine E_ps 2 (pc' := 50) (l' := [some (.ref x0), some (.int x1), some (.int (0 : Int32))]) (st' := []) rfl ?_
    exact E_wk (l' := [some (.ref x0), some (.int x1), some (.int (0 : Int32))]) ⟨rfl, rfl, rfl, trivial⟩ (s246_50_w k0 h hr)
  · rw [if_neg c1] at h
    refine E_jf rfl rfl c1 ?_
    refine E_blk rfl ?_
    refine E_ps 1 (pc' := 9) (l' := [some (.ref x0), some (.int x1), some (.int x2)]) (st' := [.ref x0]) rfl ?_
    obtain ⟨a2, e3, h⟩ := Option.bind_eq_some_iff.mp h
    refine E_gr k0 (by decide) rfl e3 ?_
    refine E_ps 2 (pc' := 14) (l' := [some (.ref x0), some (.int x1), some (.int x2)]) (st' := [.ref x0, .int x2, .ref a2]) rfl ?_
    obtain ⟨a4, e5, h⟩ := Option.bind_eq_some_iff.mp h
    refine E_gr k0 (by decide) rfl e5 ?_
    refine E_ps 5 (pc' := 23) (l' := [some (.ref x0), some (.int x1), some (.int x2)]) (st' := [.int (((100 : Int32) * x1) + x2), .ref a4, .int x2, .ref a2]) rfl ?_
    obtain ⟨v6, e7, h⟩ := Option.bind_eq_some_iff.mp h
    refine E_ai e7 ?_
    obtain ⟨t8, e9, h⟩ := Option.bind_eq_some_iff.mp h
    refine E_wi e9 ?_
    refine E_ps 1 (pc' := 26) (l' := [some (.ref x0), some (.int x1), some (.int x2)]) (st' := [.ref x0]) rfl ?_
    obtain ⟨a10, e11, h⟩ := Option.bind_eq_some_iff.mp h
    refine E_gr k0 (by decide) rfl e11 ?_
    refine E_ps 2 (pc' := 31) (l' := [some (.ref x0), some (.int x1), some (.int x2)]) (st' := [.ref x0, .int x2, .ref a10]) rfl ?_
    obtain ⟨a12, e13, h⟩ := Option.bind_eq_some_iff.mp h
    refine E_gr k0 (by decide) rfl e13 ?_
    refine E_ps 5 (pc' := 40) (l' := [some (.ref x0), some (.int x1), some (.int x2)]) (st' := [.int (((100 : Int32) * x1) + x2), .ref a12, .int x2, .ref a10]) rfl ?_
    obtain ⟨v14, e15, h⟩ := Option.bind_eq_some_iff.mp h
    refine E_ai e15 ?_
    obtain ⟨t16, e17, h⟩ := Option.bind_eq_some_iff.mp h
    refine E_wi e17 ?_
    refine E_ps 1 (pc' := 45) (l' := [some (.ref x0), some (.int x1), some (.int (x2 + (1 : Int32)))]) (st' := []) rfl ?_
    refine E_j rfl rfl ?_
    cases h
    exact E_wk (l' := [some (.ref x0), some (.int x1), some (.int (x2 + (1 : Int32)))]) ⟨rfl, rfl, rfl, trivial⟩ hr
theorem s246_2_w {sc : Option (Nat × (Nat → Int32))} {x0 : Nat} {x1 : Int32} {x2 : Int32} {s : xS} {o : xH × Option Value} {r : (xS × Unit)} (k0 : oK x0 12 = true) (h : whl (fun q : (Int32 × xS) => f246_2 x0 x1 q.1 q.2) (x2, s) = some r) (hr : dn246 o r) : Ev sc 1 246 [] 2 [some (.ref x0), some (.int x1), some (.int x2)] [] (hk_of s) o := by
  refine whl_snd (E := fun q : (Int32 × xS) => Ev sc 1 246 [] 2 [some (.ref x0), some (.int x1), some (.int q.1)] [] (hk_of q.2) o) (P := fun r => dn246 o r) (fun q r h hr => ?_) h hr
  exact s246_2 k0 h (by cases r <;> exact hr)
noncomputable def f246 (x0 : Nat) (x1 : Int32) (s : xS) : Option (xS × Unit) := ifg (oK x0 12 = true) <| whl (fun q : (Int32 × xS) => f246_2 x0 x1 q.1 q.2) ((0 : Int32), s)
set_option maxRecDepth 20000 in
theorem s246 {sc : Option (Nat × (Nat → Int32))} {x0 : Nat} {x1 : Int32} {s : xS} {r : xS × Unit} (h : f246 x0 x1 s = some r) : Cl sc 1 246 [.ref x0, .int x1] (hk_of s) (hk_of r.1, none) := by
  unfold f246 at h
  obtain ⟨k0, h⟩ := ifg_some h
  refine ⟨pg_md 246, [some (.ref x0), some (.int x1), none], pg_mt_md (by decide), (hk_rcv k0), rfl, ?_⟩
  generalize ho : ((hk_of r.1, none) : xH × Option Value) = o
  have hr : dn246 o r := ho.symm
  refine E_blk rfl ?_
  refine E_ps 2 (pc' := 2) (l' := [some (.ref x0), some (.int x1), some (.int (0 : Int32))]) (st' := []) rfl ?_
  exact E_wk (l' := [some (.ref x0), some (.int x1), some (.int (0 : Int32))]) ⟨rfl, rfl, rfl, trivial⟩ (s246_2_w k0 h hr)
