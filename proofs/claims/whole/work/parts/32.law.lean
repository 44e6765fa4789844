-- 0: ThreePlatesLaw.law([I)Z
def dn0 (o : xH × Option Value) (r : xS × Int32) : Prop := o = (hk_of r.1, some (.int r.2))
def dn0_18 (L : Nat) (xs : Nat → Int32) (x1 : Nat) (x2 : Nat) (o : xH × Option Value) (r : ((Int32 × xS) ⊕ (xS × Int32))) : Prop := match r with
  | .inl q => Ev (some (L, xs)) 13 0 [] 18 [some (.retAddr 0), some (.ref x1), some (.ref x2), some (.int q.1)] [] (hk_of q.2) o
  | .inr r => dn0 o r
noncomputable def f0_1622 (L : Nat) (xs : Nat → Int32) (x1 : Nat) (x2 : Nat) (x3 : Int32) (s : xS) : Option ((Int32 × xS) ⊕ (xS × Int32)) := some (Sum.inl ((x3 + (8 : Int32)), s))
set_option maxRecDepth 20000 in
theorem s0_1622 {L : Nat} {xs : Nat → Int32} {x1 : Nat} {x2 : Nat} {x3 : Int32} {s : xS} {o : xH × Option Value} {r : ((Int32 × xS) ⊕ (xS × Int32))} (k1 : oK x1 11 = true) (k2 : oK x2 12 = true) (h : f0_1622 L xs x1 x2 x3 s = some r) (hr : dn0_18 L xs x1 x2 o r) : Ev (some (L, xs)) 13 0 [] 1622 [some (.retAddr 0), some (.ref x1), some (.ref x2), some (.int x3)] [] (hk_of s) o := by
  unfold f0_1622 at h
  refine E_blk rfl ?_
  refine E_ps 1 (pc' := 1625) (l' := [some (.retAddr 0), some (.ref x1), some (.ref x2), some (.int (x3 + (8 : Int32)))]) (st' := []) rfl ?_
  refine E_j rfl rfl ?_
  cases h
  exact E_wk (l' := [some (.retAddr 0), some (.ref x1), some (.ref x2), some (.int (x3 + (8 : Int32)))]) ⟨rfl, rfl, rfl, rfl, trivial⟩ hr
noncomputable def f0_1494 (L : Nat) (xs : Nat → Int32) (x1 : Nat) (x2 : Nat) (x3 : Int32) (y0 : Int32) (y1 : Nat) (y2 : Int32) (s : xS) : Option ((Int32 × xS) ⊕ (xS × Int32)) := ifg (xm_in (x3 + (2 : Int32)) L = true) <| (f270 y1 y0 (xs (x3 + (2 : Int32)).toNatClampNeg) s).bind fun z2 => if y2 = z2.2 then (f0_1622 L xs x1 x2 x3 z2.1) else (Option.map Sum.inr (some (z2.1, (0 : Int32))))
set_option maxRecDepth 20000 in
theorem s0_1494 {L : Nat} {xs : Nat → Int32} {x1 : Nat} {x2 : Nat} {x3 : Int32} {y0 : Int32} {y1 : Nat} {y2 : Int32} {s : xS} {o : xH × Option Value} {r : ((Int32 × xS) ⊕ (xS × Int32))} (k1 : oK x1 11 = true) (k2 : oK x2 12 = true) (ky1 : oK y1 12 = true) (h : f0_1494 L xs x1 x2 x3 y0 y1 y2 s = some r) (hr : dn0_18 L xs x1 x2 o r) : Ev (some (L, xs)) 13 0 [] 1494 [some (.retAddr 0), some (.ref x1), some (.ref x2), some (.int x3)] [.int y0, .ref y1, .int y2] (hk_of s) o := by
  unfold f0_1494 at h
  refine E_blk rfl ?_
  refine E_ps 4 (pc' := 1498) (l' := [some (.retAddr 0), some (.ref x1), some (.ref x2), some (.int x3)]) (st' := [.int (x3 + (2 : Int32)), .retAddr 0, .int y0, .ref y1, .int y2]) rfl ?_
  obtain ⟨g1, h⟩ := ifg_some h
  refine E_si g1 ?_
  obtain ⟨z2, e3, h⟩ := Option.bind_eq_some_iff.mp h
  refine E_callI (vs := [.ref y1, .int y0, .int (xs (x3 + (2 : Int32)).toNatClampNeg)]) (rest := [.int y2]) rfl (by decide) rfl rfl (Nat.le_of_ble_eq_true rfl) (s270 e3) (by decide) ?_
  by_cases c4 : y2 = z2.2
  · rw [if_pos c4] at h
    refine E_jt rfl rfl c4 ?_
    exact E_wk (l' := [some (.retAddr 0), some (.ref x1), some (.ref x2), some (.int x3)]) ⟨rfl, rfl, rfl, rfl, trivial⟩ (s0_1622 k1 k2 h hr)
  · rw [if_neg c4] at h
    refine E_jf rfl rfl c4 ?_
    obtain ⟨r, h, hr⟩ := lf_some (Dn := dn0_18 L xs x1 x2 o) h hr
    refine E_blk rfl ?_
    refine E_ps 1 (pc' := 1506) (l' := [some (.retAddr 0), some (.ref x1), some (.ref x2), some (.int x3)]) (st' := [.int (0 : Int32)]) rfl ?_
    cases h
    exact E_ret rfl (pg_mt_md (by decide)) rfl hr
noncomputable def f0_1472 (L : Nat) (xs : Nat → Int32) (x1 : Nat) (x2 : Nat) (x3 : Int32) (y0 : Int32) (y1 : Nat) (s : xS) : Option ((Int32 × xS) ⊕ (xS × Int32)) := ifg (xm_in (x3 + (2 : Int32)) L = true) <| (f158 y1 y0 (xs (x3 + (2 : Int32)).toNatClampNeg) s).bind fun z2 => ifg (xm_in (x3 + (1 : Int32)) L = true) <| if (xs (x3 + (1 : Int32)).toNatClampNeg) = 0 then (f0_1494 L xs x1 x2 x3 (0 : Int32) x2 z2.2 z2.1) else (f0_1494 L xs x1 x2 x3 (1 : Int32) x2 z2.2 z2.1)
set_option maxRecDepth 20000 in
theorem s0_1472 {L : Nat} {xs : Nat → Int32} {x1 : Nat} {x2 : Nat} {x3 : Int32} {y0 : Int32} {y1 : Nat} {s : xS} {o : xH × Option Value} {r : ((Int32 × xS) ⊕ (xS × Int32))} (k1 : oK x1 11 = true) (k2 : oK x2 12 = true) (ky1 : oK y1 11 = true) (h : f0_1472 L xs x1 x2 x3 y0 y1 s = some r) (hr : dn0_18 L xs x1 x2 o r) : Ev (some (L, xs)) 13 0 [] 1472 [some (.retAddr 0), some (.ref x1), some (.ref x2), some (.int x3)] [.int y0, .ref y1] (hk_of s) o := by
  unfold f0_1472 at h
  refine E_blk rfl ?_
  refine E_ps 4 (pc' := 1476) (l' := [some (.retAddr 0), some (.ref x1), some (.ref x2), some (.int x3)]) (st' := [.int (x3 + (2 : Int32)), .retAddr 0, .int y0, .ref y1]) rfl ?_
  obtain ⟨g1, h⟩ := ifg_some h
  refine E_si g1 ?_
  obtain ⟨z2, e3, h⟩ := Option.bind_eq_some_iff.mp h
  refine E_callI (vs := [.ref y1, .int y0, .int (xs (x3 + (2 : Int32)).toNatClampNeg)]) (rest := []) rfl (by decide) rfl rfl (Nat.le_of_ble_eq_true rfl) (s158 e3) (by decide) ?_
  refine E_ps 5 (pc' := 1485) (l' := [some (.retAddr 0), some (.ref x1), some (.ref x2), some (.int x3)]) (st' := [.int (x3 + (1 : Int32)), .retAddr 0, .ref x2, .int z2.2]) rfl ?_
  obtain ⟨g4, h⟩ := ifg_some h
  refine E_si g4 ?_
  by_cases c5 : (xs (x3 + (1 : Int32)).toNatClampNeg) = 0
  · rw [if_pos c5] at h
    refine E_jt rfl rfl c5 ?_
    refine E_blk rfl ?_
    refine E_ps 1 (pc' := 1494) (l' := [some (.retAddr 0), some (.ref x1), some (.ref x2), some (.int x3)]) (st' := [.int (0 : Int32), .ref x2, .int z2.2]) rfl ?_
    exact E_wk (l' := [some (.retAddr 0), some (.ref x1), some (.ref x2), some (.int x3)]) ⟨rfl, rfl, rfl, rfl, trivial⟩ (s0_1494 k1 k2 k2 h hr)
  · rw [if_neg c5] at h
    refine E_jf rfl rfl c5 ?_
    refine E_blk rfl ?_
    refine E_ps 1 (pc' := 1490) (l' := [some (.retAddr 0), some (.ref x1), some (.ref x2), some (.int x3)]) (st' := [.int (1 : Int32), .ref x2, .int z2.2]) rfl ?_
    refine E_j rfl rfl ?_
    exact E_wk (l' := [some (.retAddr 0), some (.ref x1), some (.ref x2), some (.int x3)]) ⟨rfl, rfl, rfl, rfl, trivial⟩ (s0_1494 k1 k2 k2 h hr)
noncomputable def f0_1100 (L : Nat) (xs : Nat → Int32) (x1 : Nat) (x2 : Nat) (x3 : Int32) (y0 : Int32) (y1 : Int32) (y2 : Nat) (y3 : Int32) (s : xS) : Option ((Int32 × xS) ⊕ (xS × Int32)) := ifg (xm_in (x3 + (3 : Int32)) L = true) <| ifg (xm_in (x3 + (4 : Int32)) L = true) <| (f260 y2 y1 y0 (xs (x3 + (3 : Int32)).toNatClampNeg) (xs (x3 + (4 : Int32)).toNatClampNeg) s).bind fun z3 => if y3 = z3.2 then (f0_1622 L xs x1 x2 x3 z3.1) else (Option.map Sum.inr (some (z3.1, (0 : Int32))))
set_option maxRecDepth 20000 in
theorem s0_1100 {L : Nat} {xs : Nat → Int32} {x1 : Nat} {x2 : Nat} {x3 : Int32} {y0 : Int32} {y1 : Int32} {y2 : Nat} {y3 : Int32} {s : xS} {o : xH × Option Value} {r : ((Int32 × xS) ⊕ (xS × Int32))} (k1 : oK x1 11 = true) (k2 : oK x2 12 = true) (ky2 : oK y2 12 = true) (h : f0_1100 L xs x1 x2 x3 y0 y1 y2 y3 s = some r) (hr : dn0_18 L xs x1 x2 o r) : Ev (some (L, xs)) 13 0 [] 1100 [some (.retAddr 0), some (.ref x1), some (.ref x2), some (.int x3)] [.int y0, .int y1, .ref y2, .int y3] (hk_of s) o := by
  unfold f0_1100 at h
  refine E_blk rfl ?_
  refine E_ps 4 (pc' := 1104) (l' := [some (.retAddr 0), some (.ref x1), some (.ref x2), some (.int x3)]) (st' := [.int (x3 + (3 : Int32)), .retAddr 0, .int y0, .int y1, .ref y2, .int y3]) rfl ?_
  obtain ⟨g1, h⟩ := ifg_some h
  refine E_si g1 ?_
  refine E_ps 4 (pc' := 1109) (l' := [some (.retAddr 0), some (.ref x1), some (.ref x2), some (.int x3)]) (st' := [.int (x3 + (4 : Int32)), .retAddr 0, .int (xs (x3 + (3 : Int32)).toNatClampNeg), .int y0, .int y1, .ref y2, .int y3]) rfl ?_
  obtain ⟨g2, h⟩ := ifg_some h
  refine E_si g2 ?_
  obtain ⟨z3, e4, h⟩ := Option.bind_eq_some_iff.mp h
  refine E_callI (vs := [.ref y2, .int y1, .int y0, .int (xs (x3 + (3 : Int32)).toNatClampNeg), .int (xs (x3 + (4 : Int32)).toNatClampNeg)]) (rest := [.int y3]) rfl (by decide) rfl rfl (Nat.le_of_ble_eq_true rfl) (s260 e4) (by decide) ?_
  by_cases c5 : y3 = z3.2
  · rw [if_pos c5] at h
    refine E_jt rfl rfl c5 ?_
    exact E_wk (l' := [some (.retAddr 0), some (.ref x1), some (.ref x2), some (.int x3)]) ⟨rfl, rfl, rfl, rfl, trivial⟩ (s0_1622 k1 k2 h hr)
  · rw [if_neg c5] at h
    refine E_jf rfl rfl c5 ?_
    obtain ⟨r, h, hr⟩ := lf_some (Dn := dn0_18 L xs x1 x2 o) h hr
    refine E_blk rfl ?_
    refine E_ps 1 (pc' := 1117) (l' := [some (.retAddr 0), some (.ref x1), some (.ref x2), some (.int x3)]) (st' := [.int (0 : Int32)]) rfl ?_
    cases h
    exact E_ret rfl (pg_mt_md (by decide)) rfl hr
noncomputable def f0_1068 (L : Nat) (xs : Nat → Int32) (x1 : Nat) (x2 : Nat) (x3 : Int32) (y0 : Int32) (y1 : Int32) (y2 : Nat) (s : xS) : Option ((Int32 × xS) ⊕ (xS × Int32)) := ifg (xm_in (x3 + (3 : Int32)) L = true) <| ifg (xm_in (x3 + (4 : Int32)) L = true) <| (f147 y2 y1 y0 (xs (x3 + (3 : Int32)).toNatClampNeg) (xs (x3 + (4 : Int32)).toNatClampNeg) s).bind fun z3 => ifg (xm_in (x3 + (1 : Int32)) L = true) <| ifg (xm_in (x3 + (2 : Int32)) L = true) <| if (xs (x3 + (2 : Int32)).toNatClampNeg) = 0 then (f0_1100 L xs x1 x2 x3 (0 : Int32) (xs (x3 + (1 : Int32)).toNatClampNeg) x2 z3.2 z3.1) else (f0_1100 L xs x1 x2 x3 (1 : Int32) (xs (x3 + (1 : Int32)).toNatClampNeg) x2 z3.2 z3.1)
set_option maxRecDepth 20000 in
theorem s0_1068 {L : Nat} {xs : Nat → Int32} {x1 : Nat} {x2 : Nat} {x3 : Int32} {y0 : Int32} {y1 : Int32} {y2 : Nat} {s : xS} {o : xH × Option Value} {r : ((Int32 × xS) ⊕ (xS × Int32))} (k1 : oK x1 11 = true) (k2 : oK x2 12 = true) (ky2 : oK y2 11 = true) (h : f0_1068 L xs x1 x2 x3 y0 y1 y2 s = some r) (hr : dn0_18 L xs x1 x2 o r) : Ev (some (L, xs)) 13 0 [] 1068 [some (.retAddr 0), some (.ref x1), some (.ref x2), some (.int x3)] [.int y0, .int y1, .ref y2] (hk_of s) o := by
  unfold f0_1068 at h
  refine E_blk rfl ?_
  refine E_ps 4 (pc' := 1072) (l' := [some (.retAddr 0), some (.ref x1), some (.ref x2), some (.int x3)]) (st' := [.int (x3 + (3 : Int32)), .retAddr 0, .int y0, .int y1, .ref y2]) rfl ?_
  obtain ⟨g1, h⟩ := ifg_some h
  refine E_si g1 ?_
  refine E_ps 4 (pc' := 1077) (l' := [some (.retAddr 0), some (.ref x1), some (.ref x2), some (.int x3)]) (st' := [.int (x3 + (4 : Int32)), .retAddr 0, .int (xs (x3 + (3 : Int32)).toNatClampNeg), .int y0, .int y1, .ref y2]) rfl ?_
  obtain ⟨g2, h⟩ := ifg_some h
  refine E_si g2 ?_
  obtain ⟨z3, e4, h⟩ := Option.bind_eq_some_iff.mp h
  refine E_callI (vs := [.ref y2, .int y1, .int y0, .int (xs (x3 + (3 : Int32)).toNatClampNeg), .int (xs (x3 + (4 : Int32)).toNatClampNeg)]) (rest := []) rfl (by decide) rfl rfl (Nat.le_of_ble_eq_true rfl) (s147 e4) (by decide) ?_
  refine E_ps 5 (pc' := 1086) (l' := [some (.retAddr 0), some (.ref x1), some (.ref x2), some (.int x3)]) (st' := [.int (x3 + (1 : Int32)), .retAddr 0, .ref x2, .int z3.2]) rfl ?_
  obtain ⟨g5, h⟩ := ifg_some h
  refine E_si g5 ?_
  refine E_ps 4 (pc' := 1091) (l' := [some (.retAddr 0), some (.ref x1), some (.ref x2), some (.int x3)]) (st' := [.int (x3 + (2 : Int32)), .retAddr 0, .int (xs (x3 + (1 : Int32)).toNatClampNeg), .ref x2, .int z3.2]) rfl ?_
  obtain ⟨g6, h⟩ := ifg_some h
  refine E_si g6 ?_
  by_cases c7 : (xs (x3 + (2 : Int32)).toNatClampNeg) = 0
  · rw [if_pos c7] at h
    refine E_jt rfl rfl c7 ?_
    refine E_blk rfl ?_
    refine E_ps 1 (pc' := 1100) (l' := [some (.retAddr 0), some (.ref x1), some (.ref x2), some (.int x3)]) (st' := [.int (0 : Int32), .int (xs (x3 + (1 : Int32)).toNatClampNeg), .ref x2, .int z3.2]) rfl ?_
    exact E_wk (l' := [some (.retAddr 0), some (.ref x1), some (.ref x2), some (.int x3)]) ⟨rfl, rfl, rfl, rfl, trivial⟩ (s0_1100 k1 k2 k2 h hr)
  · rw [if_neg c7] at h
    refine E_jf rfl rfl c7 ?_
    refine E_blk rfl ?_
    refine E_ps 1 (pc' := 1096) (l' := [some (.retAddr 0), some (.ref x1), some (.ref x2), some (.int x3)]) (st' := [.int (1 : Int32), .int (xs (x3 + (1 : Int32)).toNatClampNeg), .ref x2, .int z3.2]) rfl ?_
    refine E_j rfl rfl ?_
    exact E_wk (l' := [some (.retAddr 0), some (.ref x1), some (.ref x2), some (.int x3)]) ⟨rfl, rfl, rfl, rfl, trivial⟩ (s0_1100 k1 k2 k2 h hr)
noncomputable def f0_18 (L : Nat) (xs : Nat → Int32) (x1 : Nat) (x2 : Nat) (x3 : Int32) (s : xS) : Option ((Int32 × xS) ⊕ (xS × Int32)) := if ((Int32.ofNat L) - (8 : Int32)) < x3 then (Option.map Sum.inr (some (s, (1 : Int32)))) else (ifg (xm_in x3 L = true) <| if ((xs x3.toNatClampNeg) &&& (63 : Int32)) = 0 then (ifg (xm_in (x3 + (1 : Int32)) L = true) <| ifg (xm_in (x3 + (2 : Int32)) L = true) <| ifg (xm_in (x3 + (3 : Int32)) L = true) <| ifg (xm_in (x3 + (4 : Int32)) L = true) <| ifg (xm_in (x3 + (5 : Int32)) L = true) <| (f124 x1 (xs (x3 + (1 : Int32)).toNatClampNeg) (xs (x3 + (2 : Int32)).toNatClampNeg) (xs (x3 + (3 : Int32)).toNatClampNeg) (xs (x3 + (4 : Int32)).toNatClampNeg) (xs (x3 + (5 : Int32)).toNatClampNeg) s).bind fun z9 => ifg (xm_in (x3 + (1 : Int32)) L = true) <| ifg (xm_in (x3 + (2 : Int32)) L = true) <| ifg (xm_in (x3 + (3 : Int32)) L = true) <| ifg (xm_in (x3 + (4 : Int32)) L = true) <| ifg (xm_in (x3 + (5 : Int32)) L = true) <| (f282 x2 (xs (x3 + (1 : Int32)).toNatClampNeg) (xs (x3 + (2 : Int32)).toNatClampNeg) (xs (x3 + (3 : Int32)).toNatClampNeg) (xs (x3 + (4 : Int32)).toNatClampNeg) (xs (x3 + (5 : Int32)).toNatClampNeg) z9.1).bind fun z16 => if z9.2 = z16.2 then (f0_1622 L xs x1 x2 x3 z16.1) else (Option.map Sum.inr (some (z16.1, (0 : Int32))))) else (if ((xs x3.toNatClampNeg) &&& (63 : Int32)) = 1 then (ifg (xm_in (x3 + (1 : Int32)) L = true) <| (f125 x1 (xs (x3 + (1 : Int32)).toNatClampNeg) s).bind fun z21 => ifg (xm_in (x3 + (1 : Int32)) L = true) <| (f283 x2 (xs (x3 + (1 : Int32)).toNatClampNeg) z21.1).bind fun z24 => if z21.2 = z24.2 then (f0_1622 L xs x1 x2 x3 z24.1) else (Option.map Sum.inr (some (z24.1, (0 : Int32))))) else (if ((xs x3.toNatClampNeg) &&& (63 : Int32)) = 2 then ((f126 x1 s).bind fun z28 => (f187 x2 z28.1).bind fun z30 => if z28.2 = z30.2 then (f0_1622 L xs x1 x2 x3 z30.1) else (Option.map Sum.inr (some (z30.1, (0 : Int32))))) else (if ((xs x3.toNatClampNeg) &&& (63 : Int32)) = 3 then ((f127 x1 s).bind fun z34 => (f192 x2 z34.1).bind fun z36 => if z34.2 = z36.2 then (f0_1622 L xs x1 x2 x3 z36.1) else (Option.map Sum.inr (some (z36.1, (0 : Int32))))) else (if ((xs x3.toNatClampNeg) &&& (63 : Int32)) = 4 then (ifg (xm_in (x3 + (1 : Int32)) L = true) <| (f128 x1 (xs (x3 + (1 : Int32)).toNatClampNeg) s).bind fun z41 => ifg (xm_in (x3 + (1 : Int32)) L = true) <| (f191 x2 (xs (x3 + (1 : Int32)).toNatClampNeg) z41.1).bind fun z44 => if z41.2 = z44.2 then (f0_1622 L xs x1 x2 x3 z44.1) else (Option.map Sum.inr (some (z44.1, (0 : Int32))))) else (if ((xs x3.toNatClampNeg) &&& (63 : Int32)) = 5 then (ifg (xm_in (x3 + (1 : Int32)) L = true) <| ifg (xm_in (x3 + (2 : Int32)) L = true) <| (f129 x1 (xs (x3 + (1 : Int32)).toNatClampNeg) (xs (x3 + (2 : Int32)).toNatClampNeg) s).bind fun z50 => ifg (xm_in (x3 + (1 : Int32)) L = true) <| ifg (xm_in (x3 + (2 : Int32)) L = true) <| (f200 x2 (xs (x3 + (1 : Int32)).toNatClampNeg) (xs (x3 + (2 : Int32)).toNatClampNeg) z50.1).bind fun z54 => if z50.2 = z54.2 then (f0_1622 L xs x1 x2 x3 z54.1) else (Option.map Sum.inr (some (z54.1, (0 : Int32))))) else (if ((xs x3.toNatClampNeg) &&& (63 : Int32)) = 6 then (ifg (xm_in (x3 + (1 : Int32)) L = true) <| ifg (xm_in (x3 + (2 : Int32)) L = true) <| (f130 x1 (xs (x3 + (1 : Int32)).toNatClampNeg) (xs (x3 + (2 : Int32)).toNatClampNeg) s).bind fun z60 => ifg (xm_in (x3 + (1 : Int32)) L = true) <| ifg (xm_in (x3 + (2 : Int32)) L = true) <| (f201 x2 (xs (x3 + (1 : Int32)).toNatClampNeg) (xs (x3 + (2 : Int32)).toNatClampNeg) z60.1).bind fun z64 => if z60.2 = z64.2 then (f0_1622 L xs x1 x2 x3 z64.1) else (Option.map Sum.inr (some (z64.1, (0 : Int32))))) else (if ((xs x3.toNatClampNeg) &&& (63 : Int32)) = 7 then (ifg (xm_in (x3 + (1 : Int32)) L = true) <| ifg (xm_in (x3 + (2 : Int32)) L = true) <| ifg (xm_in (x3 + (3 : Int32)) L = true) <| ifg (xm_in (x3 + (4 : Int32)) L = true) <| ifg (xm_in (x3 + (5 : Int32)) L = true) <| ifg (xm_in (x3 + (6 : Int32)) L = true) <| (f131 x1 (xs (x3 + (1 : Int32)).toNatClampNeg) (xs (x3 + (2 : Int32)).toNatClampNeg) (xs (x3 + (3 : Int32)).toNatClampNeg) (xs (x3 + (4 : Int32)).toNatClampNeg) (xs (x3 + (5 : Int32)).toNatClampNeg) (xs (x3 + (6 : Int32)).toNatClampNeg) s).bind fun z74 => ifg (xm_in (x3 + (1 : Int32)) L = true) <| ifg (xm_in (x3 + (2 : Int32)) L = true) <| ifg (xm_in (x3 + (3 : Int32)) L = true) <| ifg (xm_in (x3 + (4 : Int32)) L = true) <| ifg (xm_in (x3 + (5 : Int32)) L = true) <| ifg (xm_in (x3 + (6 : Int32)) L = true) <| (f220 x2 (xs (x3 + (1 : Int32)).toNatClampNeg) (xs (x3 + (2 : Int32)).toNatClampNeg) (xs (x3 + (3 : Int32)).toNatClampNeg) (xs (x3 + (4 : Int32)).toNatClampNeg) (xs (x3 + (5 : Int32)).toNatClampNeg) (xs (x3 + (6 : Int32)).toNatClampNeg) z74.1).bind fun z82 => if z74.2 = z82.2 then (f0_1622 L xs x1 x2 x3 z82.1) else (Option.map Sum.inr (some (z82.1, (0 : Int32))))) else (if ((xs x3.toNatClampNeg) &&& (63 : Int32)) = 8 then (ifg (xm_in (x3 + (1 : Int32)) L = true) <| ifg (xm_in (x3 + (2 : Int32)) L = true) <| ifg (xm_in (x3 + (3 : Int32)) L = true) <| ifg (xm_in (x3 + (4 : Int32)) L = true) <| ifg (xm_in (x3 + (5 : Int32)) L = true) <| ifg (xm_in (x3 + (6 : Int32)) L = true) <| ifg (xm_in (x3 + (7 : Int32)) L = true) <| (f132 x1 (xs (x3 + (1 : Int32)).toNatClampNeg) (xs (x3 + (2 : Int32)).toNatClampNeg) (xs (x3 + (3 : Int32)).toNatClampNeg) (xs (x3 + (4 : Int32)).toNatClampNeg) (xs (x3 + (5 : Int32)).toNatClampNeg) (xs (x3 + (6 : Int32)).toNatClampNeg) (xs (x3 + (7 : Int32)).toNatClampNeg) s).bind fun z93 => ifg (xm_in (x3 + (1 : Int32)) L = true) <| ifg (xm_in (x3 + (2 : Int32)) L = true) <| ifg (xm_in (x3 + (3 : Int32)) L = true) <| ifg (xm_in (x3 + (4 : Int32)) L = true) <| ifg (xm_in (x3 + (5 : Int32)) L = true) <| ifg (xm_in (x3 + (6 : Int32)) L = true) <| ifg (xm_in (x3 + (7 : Int32)) L = true) <| (f221 x2 (xs (x3 + (1 : Int32)).toNatClampNeg) (xs (x3 + (2 : Int32)).toNatClampNeg) (xs (x3 + (3 : Int32)).toNatClampNeg) (xs (x3 + (4 : Int32)).toNatClampNeg) (xs (x3 + (5 : Int32)).toNatClampNeg) (xs (x3 + (6 : Int32)).toNatClampNeg) (xs (x3 + (7 : Int32)).toNatClampNeg) z93.1).bind fun z102 => if z93.2 = z102.2 then (f0_1622 L xs x1 x2 x3 z102.1) else (Option.map Sum.inr (some (z102.1, (0 : Int32))))) else (if ((xs x3.toNatClampNeg) &&& (63 : Int32)) = 9 then (ifg (xm_in (x3 + (1 : Int32)) L = true) <| ifg (xm_in (x3 + (2 : Int32)) L = true) <| ifg (xm_in (x3 + (3 : Int32)) L = true) <| ifg (xm_in (x3 + (4 : Int32)) L = true) <| ifg (xm_in (x3 + (5 : Int32)) L = true) <| ifg (xm_in (x3 + (6 : Int32)) L = true) <| (f133 x1 (xs (x3 + (1 : Int32)).toNatClampNeg) (xs (x3 + (2 : Int32)).toNatClampNeg) (xs (x3 + (3 : Int32)).toNatClampNeg) (xs (x3 + (4 : Int32)).toNatClampNeg) (xs (x3 + (5 : Int32)).toNatClampNeg) (xs (x3 + (6 : Int32)).toNatClampNeg) s).bind fun z112 => ifg (xm_in (x3 + (1 : Int32)) L = true) <| ifg (xm_in (x3 + (2 : Int32)) L = true) <| ifg (xm_in (x3 + (3 : Int32)) L = true) <| ifg (xm_in (x3 + (4 : Int32)) L = true) <| ifg (xm_in (x3 + (5 : Int32)) L = true) <| ifg (xm_in (x3 + (6 : Int32)) L = true) <| (f224 x2 (xs (x3 + (1 : Int32)).toNatClampNeg) (xs (x3 + (2 : Int32)).toNatClampNeg) (xs (x3 + (3 : Int32)).toNatClampNeg) (xs (x3 + (4 : Int32)).toNatClampNeg) (xs (x3 + (5 : Int32)).toNatClampNeg) (xs (x3 + (6 : Int32)).toNatClampNeg) z112.1).bind fun z120 => if (lg_cmp z112.2 z120.2) = 0 then (f0_1622 L xs x1 x2 x3 z120.1) else (Option.map Sum.inr (some (z120.1, (0 : Int32))))) else (if ((xs x3.toNatClampNeg) &&& (63 : Int32)) = 10 then (ifg (xm_in (x3 + (1 : Int32)) L = true) <| ifg (xm_in (x3 + (2 : Int32)) L = true) <| ifg (xm_in (x3 + (3 : Int32)) L = true) <| ifg (xm_in (x3 + (4 : Int32)) L = true) <| ifg (xm_in (x3 + (5 : Int32)) L = true) <| ifg (xm_in (x3 + (6 : Int32)) L = true) <| (f134 x1 (xs (x3 + (1 : Int32)).toNatClampNeg) (xs (x3 + (2 : Int32)).toNatClampNeg) (xs (x3 + (3 : Int32)).toNatClampNeg) (xs (x3 + (4 : Int32)).toNatClampNeg) (xs (x3 + (5 : Int32)).toNatClampNeg) (xs (x3 + (6 : Int32)).toNatClampNeg) s).bind fun z130 => ifg (xm_in (x3 + (1 : Int32)) L = true) <| ifg (xm_in (x3 + (2 : Int32)) L = true) <| ifg (xm_in (x3 + (3 : Int32)) L = true) <| ifg (xm_in (x3 + (4 : Int32)) L = true) <| ifg (xm_in (x3 + (5 : Int32)) L = true) <| ifg (xm_in (x3 + (6 : Int32)) L = true) <| (f225 x2 (xs (x3 + (1 : Int32)).toNatClampNeg) (xs (x3 + (2 : Int32)).toNatClampNeg) (xs (x3 + (3 : Int32)).toNatClampNeg) (xs (x3 + (4 : Int32)).toNatClampNeg) (xs (x3 + (5 : Int32)).toNatClampNeg) (xs (x3 + (6 : Int32)).toNatClampNeg) z130.1).bind fun z138 => if z130.2 = z138.2 then (f0_1622 L xs x1 x2 x3 z138.1) else (Option.map Sum.inr (some (z138.1, (0 : Int32))))) else (if ((xs x3.toNatClampNeg) &&& (63 : Int32)) = 11 then (ifg (xm_in (x3 + (1 : Int32)) L = true) <| (f135 x1 (xs (x3 + (1 : Int32)).toNatClampNeg) s).bind fun z143 => ifg (xm_in (x3 + (1 : Int32)) L = true) <| (f230 x2 (xs (x3 + (1 : Int32)).toNatClampNeg) z143.1).bind fun z146 => if z143.2 = z146.2 then (f0_1622 L xs x1 x2 x3 z146.1) else (Option.map Sum.inr (some (z146.1, (0 : Int32))))) else (if ((xs x3.toNatClampNeg) &&& (63 : Int32)) = 12 then (ifg (xm_in (x3 + (1 : Int32)) L = true) <| (f136 x1 (xs (x3 + (1 : Int32)).toNatClampNeg) s).bind fun z151 => ifg (xm_in (x3 + (1 : Int32)) L = true) <| (f231 x2 (xs (x3 + (1 : Int32)).toNatClampNeg) z151.1).bind fun z154 => if z151.2 = z154.2 then (f0_1622 L xs x1 x2 x3 z154.1) else (Option.map Sum.inr (some (z154.1, (0 : Int32))))) else (if ((xs x3.toNatClampNeg) &&& (63 : Int32)) = 13 then (ifg (xm_in (x3 + (1 : Int32)) L = true) <| ifg (xm_in (x3 + (2 : Int32)) L = true) <| (f137 x1 (xs (x3 + (1 : Int32)).toNatClampNeg) (xs (x3 + (2 : Int32)).toNatClampNeg) s).bind fun z160 => ifg (xm_in (x3 + (1 : Int32)) L = true) <| ifg (xm_in (x3 + (2 : Int32)) L = true) <| (f233 x2 (xs (x3 + (1 : Int32)).toNatClampNeg) (xs (x3 + (2 : Int32)).toNatClampNeg) z160.1).bind fun z164 => if z160.2 = z164.2 then (f0_1622 L xs x1 x2 x3 z164.1) else (Option.map Sum.inr (some (z164.1, (0 : Int32))))) else (if ((xs x3.toNatClampNeg) &&& (63 : Int32)) = 14 then (ifg (xm_in (x3 + (1 : Int32)) L = true) <| (f138 x1 (xs (x3 + (1 : Int32)).toNatClampNeg) s).bind fun z169 => ifg (xm_in (x3 + (1 : Int32)) L = true) <| (f235 x2 (xs (x3 + (1 : Int32)).toNatClampNeg) z169.1).bind fun z172 => if z169.2 = z172.2 then (f0_1622 L xs x1 x2 x3 z172.1) else (Option.map Sum.inr (some (z172.1, (0 : Int32))))) else (if ((xs x3.toNatClampNeg) &&& (63 : Int32)) = 15 then (ifg (xm_in (x3 + (1 : Int32)) L = true) <| ifg (xm_in (x3 + (2 : Int32)) L = true) <| ifg (xm_in (x3 + (3 : Int32)) L = true) <| (f139 x1 (xs (x3 + (1 : Int32)).toNatClampNeg) (xs (x3 + (2 : Int32)).toNatClampNeg) (xs (x3 + (3 : Int32)).toNatClampNeg) s).bind fun z179 => ifg (xm_in (x3 + (1 : Int32)) L = true) <| ifg (xm_in (x3 + (2 : Int32)) L = true) <| ifg (xm_in (x3 + (3 : Int32)) L = true) <| (f237 x2 (xs (x3 + (1 : Int32)).toNatClampNeg) (xs (x3 + (2 : Int32)).toNatClampNeg) (xs (x3 + (3 : Int32)).toNatClampNeg) z179.1).bind fun z184 => if z179.2 = z184.2 then (f0_1622 L xs x1 x2 x3 z184.1) else (Option.map Sum.inr (some (z184.1, (0 : Int32))))) else (if ((xs x3.toNatClampNeg) &&& (63 : Int32)) = 16 then (ifg (xm_in (x3 + (1 : Int32)) L = true) <| (f140 x1 (xs (x3 + (1 : Int32)).toNatClampNeg) s).bind fun z189 => ifg (xm_in (x3 + (1 : Int32)) L = true) <| (f238 x2 (xs (x3 + (1 : Int32)).toNatClampNeg) z189.1).bind fun z192 => if z189.2 = z192.2 then (f0_1622 L xs x1 x2 x3 z192.1) else (Option.map Sum.inr (some (z192.1, (0 : Int32))))) else (if ((xs x3.toNatClampNeg) &&& (63 : Int32)) = 17 then ((f141 x1 s).bind fun z196 => (f243 x2 z196.1).bind fun z198 => if z196.2 = z198.2 then (f0_1622 L xs x1 x2 x3 z198.1) else (Option.map Sum.inr (some (z198.1, (0 : Int32))))) else (if ((xs x3.toNatClampNeg) &&& (63 : Int32)) = 18 then ((f142 x1 s).bind fun z202 => (f244 x2 z202.1).bind fun z204 => if z202.2 = z204.2 then (f0_1622 L xs x1 x2 x3 z204.1) else (Option.map Sum.inr (some (z204.1, (0 : Int32))))) else (if ((xs x3.toNatClampNeg) &&& (63 : Int32)) = 19 then (ifg (xm_in (x3 + (1 : Int32)) L = true) <| (f143 x1 (xs (x3 + (1 : Int32)).toNatClampNeg) s).bind fun z209 => ifg (xm_in (x3 + (1 : Int32)) L = true) <| (f247 x2 (xs (x3 + (1 : Int32)).toNatClampNeg) z209.1).bind fun z212 => if z209.2 = z212.2 then (f0_1622 L xs x1 x2 x3 z212.1) else (Option.map Sum.inr (some (z212.1, (0 : Int32))))) else (if ((xs x3.toNatClampNeg) &&& (63 : Int32)) = 20 then (ifg (xm_in (x3 + (1 : Int32)) L = true) <| ifg (xm_in (x3 + (2 : Int32)) L = true) <| (f144 x1 (xs (x3 + (1 : Int32)).toNatClampNeg) (xs (x3 + (2 : Int32)).toNatClampNeg) s).bind fun z218 => ifg (xm_in (x3 + (1 : Int32)) L = true) <| ifg (xm_in (x3 + (2 : Int32)) L = true) <| (f254 x2 (xs (x3 + (1 : Int32)).toNatClampNeg) (xs (x3 + (2 : Int32)).toNatClampNeg) z218.1).bind fun z222 => if z218.2 = z222.2 then (f0_1622 L xs x1 x2 x3 z222.1) else (Option.map Sum.inr (some (z222.1, (0 : Int32))))) else (if ((xs x3.toNatClampNeg) &&& (63 : Int32)) = 21 then (ifg (xm_in (x3 + (1 : Int32)) L = true) <| ifg (xm_in (x3 + (2 : Int32)) L = true) <| ifg (xm_in (x3 + (3 : Int32)) L = true) <| (f145 x1 (xs (x3 + (1 : Int32)).toNatClampNeg) (xs (x3 + (2 : Int32)).toNatClampNeg) (xs (x3 + (3 : Int32)).toNatClampNeg) s).bind fun z229 => ifg (xm_in (x3 + (1 : Int32)) L = true) <| ifg (xm_in (x3 + (2 : Int32)) L = true) <| ifg (xm_in (x3 + (3 : Int32)) L = true) <| (f255 x2 (xs (x3 + (1 : Int32)).toNatClampNeg) (xs (x3 + (2 : Int32)).toNatClampNeg) (xs (x3 + (3 : Int32)).toNatClampNeg) z229.1).bind fun z234 => if z229.2 = z234.2 then (f0_1622 L xs x1 x2 x3 z234.1) else (Option.map Sum.inr (some (z234.1, (0 : Int32))))) else (if ((xs x3.toNatClampNeg) &&& (63 : Int32)) = 22 then (ifg (xm_in (x3 + (1 : Int32)) L = true) <| ifg (xm_in (x3 + (2 : Int32)) L = true) <| (f146 x1 (xs (x3 + (1 : Int32)).toNatClampNeg) (xs (x3 + (2 : Int32)).toNatClampNeg) s).bind fun z240 => ifg (xm_in (x3 + (1 : Int32)) L = true) <| ifg (xm_in (x3 + (2 : Int32)) L = true) <| (f256 x2 (xs (x3 + (1 : Int32)).toNatClampNeg) (xs (x3 + (2 : Int32)).toNatClampNeg) z240.1).bind fun z244 => if (lg_cmp z240.2 z244.2) = 0 then (f0_1622 L xs x1 x2 x3 z244.1) else (Option.map Sum.inr (some (z244.1, (0 : Int32))))) else (if ((xs x3.toNatClampNeg) &&& (63 : Int32)) = 23 then (ifg (xm_in (x3 + (1 : Int32)) L = true) <| ifg (xm_in (x3 + (2 : Int32)) L = true) <| if (xs (x3 + (2 : Int32)).toNatClampNeg) = 0 then (f0_1068 L xs x1 x2 x3 (0 : Int32) (xs (x3 + (1 : Int32)).toNatClampNeg) x1 s) else (f0_1068 L xs x1 x2 x3 (1 : Int32) (xs (x3 + (1 : Int32)).toNatClampNeg) x1 s)) else (if ((xs x3.toNatClampNeg) &&& (63 : Int32)) = 24 then (ifg (xm_in (x3 + (1 : Int32)) L = true) <| ifg (xm_in (x3 + (2 : Int32)) L = true) <| ifg (xm_in (x3 + (3 : Int32)) L = true) <| ifg (xm_in (x3 + (4 : Int32)) L = true) <| ifg (xm_in (x3 + (5 : Int32)) L = true) <| (f148 x1 (xs (x3 + (1 : Int32)).toNatClampNeg) (xs (x3 + (2 : Int32)).toNatClampNeg) (xs (x3 + (3 : Int32)).toNatClampNeg) (xs (x3 + (4 : Int32)).toNatClampNeg) (xs (x3 + (5 : Int32)).toNatClampNeg) s).bind fun z257 => ifg (xm_in (x3 + (1 : Int32)) L = true) <| ifg (xm_in (x3 + (2 : Int32)) L = true) <| ifg (xm_in (x3 + (3 : Int32)) L = true) <| ifg (xm_in (x3 + (4 : Int32)) L = true) <| ifg (xm_in (x3 + (5 : Int32)) L = true) <| (f262 x2 (xs (x3 + (1 : Int32)).toNatClampNeg) (xs (x3 + (2 : Int32)).toNatClampNeg) (xs (x3 + (3 : Int32)).toNatClampNeg) (xs (x3 + (4 : Int32)).toNatClampNeg) (xs (x3 + (5 : Int32)).toNatClampNeg) z257.1).bind fun z264 => if z257.2 = z264.2 then (f0_1622 L xs x1 x2 x3 z264.1) else (Option.map Sum.inr (some (z264.1, (0 : Int32))))) else (if ((xs x3.toNatClampNeg) &&& (63 : Int32)) = 25 then (ifg (xm_in (x3 + (1 : Int32)) L = true) <| ifg (xm_in (x3 + (2 : Int32)) L = true) <| (f149 x1 (xs (x3 + (1 : Int32)).toNatClampNeg) (xs (x3 + (2 : Int32)).toNatClampNeg) s).bind fun z270 => ifg (xm_in (x3 + (1 : Int32)) L = true) <| ifg (xm_in (x3 + (2 : Int32)) L = true) <| (f273 x2 (xs (x3 + (1 : Int32)).toNatClampNeg) (xs (x3 + (2 : Int32)).toNatClampNeg) z270.1).bind fun z274 => if z270.2 = z274.2 then (f0_1622 L xs x1 x2 x3 z274.1) else (Option.map Sum.inr (some (z274.1, (0 : Int32))))) else (if ((xs x3.toNatClampNeg) &&& (63 : Int32)) = 26 then ((f150 x1 s).bind fun z278 => (f274 x2 z278.1).bind fun z280 => if z278.2 = z280.2 then (f0_1622 L xs x1 x2 x3 z280.1) else (Option.map Sum.inr (some (z280.1, (0 : Int32))))) else (if ((xs x3.toNatClampNeg) &&& (63 : Int32)) = 27 then ((f151 x1 s).bind fun z284 => (f276 x2 z284.1).bind fun z286 => if z284.2 = z286.2 then (f0_1622 L xs x1 x2 x3 z286.1) else (Option.map Sum.inr (some (z286.1, (0 : Int32))))) else (if ((xs x3.toNatClampNeg) &&& (63 : Int32)) = 28 then (ifg (xm_in (x3 + (1 : Int32)) L = true) <| (f152 x1 (xs (x3 + (1 : Int32)).toNatClampNeg) s).bind fun z291 => ifg (xm_in (x3 + (1 : Int32)) L = true) <| (f277 x2 (xs (x3 + (1 : Int32)).toNatClampNeg) z291.1).bind fun z294 => if z291.2 = z294.2 then (f0_1622 L xs x1 x2 x3 z294.1) else (Option.map Sum.inr (some (z294.1, (0 : Int32))))) else (if ((xs x3.toNatClampNeg) &&& (63 : Int32)) = 29 then (ifg (xm_in (x3 + (1 : Int32)) L = true) <| ifg (xm_in (x3 + (2 : Int32)) L = true) <| ifg (xm_in (x3 + (3 : Int32)) L = true) <| ifg (xm_in (x3 + (4 : Int32)) L = true) <| ifg (xm_in (x3 + (5 : Int32)) L = true) <| (f153 x1 (xs (x3 + (1 : Int32)).toNatClampNeg) (xs (x3 + (2 : Int32)).toNatClampNeg) (xs (x3 + (3 : Int32)).toNatClampNeg) (xs (x3 + (4 : Int32)).toNatClampNeg) (xs (x3 + (5 : Int32)).toNatClampNeg) s).bind fun z303 => ifg (xm_in (x3 + (1 : Int32)) L = true) <| ifg (xm_in (x3 + (2 : Int32)) L = true) <| ifg (xm_in (x3 + (3 : Int32)) L = true) <| ifg (xm_in (x3 + (4 : Int32)) L = true) <| ifg (xm_in (x3 + (5 : Int32)) L = true) <| (f204 x2 (xs (x3 + (1 : Int32)).toNatClampNeg) (xs (x3 + (2 : Int32)).toNatClampNeg) (xs (x3 + (3 : Int32)).toNatClampNeg) (xs (x3 + (4 : Int32)).toNatClampNeg) (xs (x3 + (5 : Int32)).toNatClampNeg) z303.1).bind fun z310 => if z303.2 = z310.2 then (f0_1622 L xs x1 x2 x3 z310.1) else (Option.map Sum.inr (some (z310.1, (0 : Int32))))) else (if ((xs x3.toNatClampNeg) &&& (63 : Int32)) = 30 then (ifg (xm_in (x3 + (1 : Int32)) L = true) <| ifg (xm_in (x3 + (2 : Int32)) L = true) <| (f154 x1 (xs (x3 + (1 : Int32)).toNatClampNeg) (xs (x3 + (2 : Int32)).toNatClampNeg) s).bind fun z316 => ifg (xm_in (x3 + (1 : Int32)) L = true) <| ifg (xm_in (x3 + (2 : Int32)) L = true) <| (f249 x2 (xs (x3 + (1 : Int32)).toNatClampNeg) (xs (x3 + (2 : Int32)).toNatClampNeg) z316.1).bind fun z320 => if z316.2 = z320.2 then (f0_1622 L xs x1 x2 x3 z320.1) else (Option.map Sum.inr (some (z320.1, (0 : Int32))))) else (if ((xs x3.toNatClampNeg) &&& (63 : Int32)) = 31 then (ifg (xm_in (x3 + (1 : Int32)) L = true) <| ifg (xm_in (x3 + (2 : Int32)) L = true) <| ifg (xm_in (x3 + (3 : Int32)) L = true) <| ifg (xm_in (x3 + (4 : Int32)) L = true) <| ifg (xm_in (x3 + (5 : Int32)) L = true) <| (f155 x1 (xs (x3 + (1 : Int32)).toNatClampNeg) (xs (x3 + (2 : Int32)).toNatClampNeg) (xs (x3 + (3 : Int32)).toNatClampNeg) (xs (x3 + (4 : Int32)).toNatClampNeg) (xs (x3 + (5 : Int32)).toNatClampNeg) s).bind fun z329 => ifg (xm_in (x3 + (1 : Int32)) L = true) <| ifg (xm_in (x3 + (2 : Int32)) L = true) <| ifg (xm_in (x3 + (3 : Int32)) L = true) <| ifg (xm_in (x3 + (4 : Int32)) L = true) <| ifg (xm_in (x3 + (5 : Int32)) L = true) <| (f263 x2 (xs (x3 + (1 : Int32)).toNatClampNeg) (xs (x3 + (2 : Int32)).toNatClampNeg) (xs (x3 + (3 : Int32)).toNatClampNeg) (xs (x3 + (4 : Int32)).toNatClampNeg) (xs (x3 + (5 : Int32)).toNatClampNeg) z329.1).bind fun z336 => if z329.2 = z336.2 then (f0_1622 L xs x1 x2 x3 z336.1) else (Option.map Sum.inr (some (z336.1, (0 : Int32))))) else (if ((xs x3.toNatClampNeg) &&& (63 : Int32)) = 32 then ((f156 x1 s).bind fun z340 => (f268 x2 z340.1).bind fun z342 => if z340.2 = z342.2 then (f0_1622 L xs x1 x2 x3 z342.1) else (Option.map Sum.inr (some (z342.1, (0 : Int32))))) else (if ((xs x3.toNatClampNeg) &&& (63 : Int32)) = 33 then (ifg (xm_in (x3 + (1 : Int32)) L = true) <| (f157 x1 (xs (x3 + (1 : Int32)).toNatClampNeg) s).bind fun z347 => ifg (xm_in (x3 + (1 : Int32)) L = true) <| (f269 x2 (xs (x3 + (1 : Int32)).toNatClampNeg) z347.1).bind fun z350 => if z347.2 = z350.2 then (f0_1622 L xs x1 x2 x3 z350.1) else (Option.map Sum.inr (some (z350.1, (0 : Int32))))) else (if ((xs x3.toNatClampNeg) &&& (63 : Int32)) = 34 then (ifg (xm_in (x3 + (1 : Int32)) L = true) <| if (xs (x3 + (1 : Int32)).toNatClampNeg) = 0 then (f0_1472 L xs x1 x2 x3 (0 : Int32) x1 s) else (f0_1472 L xs x1 x2 x3 (1 : Int32) x1 s)) else (if ((xs x3.toNatClampNeg) &&& (63 : Int32)) = 35 then (ifg (xm_in (x3 + (1 : Int32)) L = true) <| (f159 x1 (xs (x3 + (1 : Int32)).toNatClampNeg) s).bind fun z358 => ifg (xm_in (x3 + (1 : Int32)) L = true) <| (f272 x2 (xs (x3 + (1 : Int32)).toNatClampNeg) z358.1).bind fun z361 => if z358.2 = z361.2 then (f0_1622 L xs x1 x2 x3 z361.1) else (Option.map Sum.inr (some (z361.1, (0 : Int32))))) else (if ((xs x3.toNatClampNeg) &&& (63 : Int32)) = 36 then (ifg (xm_in (x3 + (1 : Int32)) L = true) <| (f160 x1 (xs (x3 + (1 : Int32)).toNatClampNeg) s).bind fun z366 => ifg (xm_in (x3 + (1 : Int32)) L = true) <| (f278 x2 (xs (x3 + (1 : Int32)).toNatClampNeg) z366.1).bind fun z369 => if z366.2 = z369.2 then (f0_1622 L xs x1 x2 x3 z369.1) else (Option.map Sum.inr (some (z369.1, (0 : Int32))))) else (if ((xs x3.toNatClampNeg) &&& (63 : Int32)) = 37 then (ifg (xm_in (x3 + (1 : Int32)) L = true) <| (f161 x1 (xs (x3 + (1 : Int32)).toNatClampNeg) s).bind fun z374 => ifg (xm_in (x3 + (1 : Int32)) L = true) <| (f279 x2 (xs (x3 + (1 : Int32)).toNatClampNeg) z374.1).bind fun z377 => if z374.2 = z377.2 then (f0_1622 L xs x1 x2 x3 z377.1) else (Option.map Sum.inr (some (z377.1, (0 : Int32))))) else (if ((xs x3.toNatClampNeg) &&& (63 : Int32)) = 38 then (ifg (xm_in (x3 + (1 : Int32)) L = true) <| (f162 x1 (xs (x3 + (1 : Int32)).toNatClampNeg) s).bind fun z382 => ifg (xm_in (x3 + (1 : Int32)) L = true) <| (f280 x2 (xs (x3 + (1 : Int32)).toNatClampNeg) z382.1).bind fun z385 => if z382.2 = z385.2 then (f0_1622 L xs x1 x2 x3 z385.1) else (Option.map Sum.inr (some (z385.1, (0 : Int32))))) else (if ((xs x3.toNatClampNeg) &&& (63 : Int32)) = 39 then (ifg (xm_in (x3 + (1 : Int32)) L = true) <| (f163 x1 (xs (x3 + (1 : Int32)).toNatClampNeg) s).bind fun z390 => ifg (xm_in (x3 + (1 : Int32)) L = true) <| (f281 x2 (xs (x3 + (1 : Int32)).toNatClampNeg) z390.1).bind fun z393 => if z390.2 = z393.2 then (f0_1622 L xs x1 x2 x3 z393.1) else (Option.map Sum.inr (some (z393.1, (0 : Int32))))) else (f0_1622 L xs x1 x2 x3 s)))))))))))))))))))))))))))))))))))))))))
set_option maxRecDepth 20000 in
theorem s0_18 {L : Nat} {xs : Nat → Int32} {x1 : Nat} {x2 : Nat} {x3 : Int32} {s : xS} {o : xH × Option Value} {r : ((Int32 × xS) ⊕ (xS × Int32))} (k1 : oK x1 11 = true) (k2 : oK x2 12 = true) (h : f0_18 L xs x1 x2 x3 s = some r) (hr : dn0_18 L xs x1 x2 o r) : Ev (some (L, xs)) 13 0 [] 18 [some (.retAddr 0), some (.ref x1), some (.ref x2), some (.int x3)] [] (hk_of s) o := by
  unfold f0_18 at h
  refine E_blk rfl ?_
  refine E_ps 2 (pc' := 20) (l' := [some (.retAddr 0), some (.ref x1), some (.ref x2), some (.int x3)]) (st' := [.retAddr 0, .int x3]) rfl ?_
  refine E_sn ?_
  refine E_ps 2 (pc' := 24) (l' := [some (.retAddr 0), some (.ref x1), some (.ref x2), some (.int x3)]) (st' := [.int ((Int32.ofNat L) - (8 : Int32)), .int x3]) rfl ?_
  by_cases c1 : ((Int32.ofNat L) - (8 : Int32)) < x3
  · rw [if_pos c1] at h
    refine E_jt rfl rfl c1 ?_
    obtain ⟨r, h, hr⟩ := lf_some (Dn := dn0_18 L xs x1 x2 o) h hr
    refine E_blk rfl ?_
    refine E_ps 1 (pc' := 1629) (l' := [some (.retAddr 0), some (.ref x1), some (.ref x2), some (.int x3)]) (st' := [.int (1 : Int32)]) rfl ?_
    cases h
    exact E_ret rfl (pg_mt_md (by decide)) rfl hr
  · rw [if_neg c1] at h
    refine E_jf rfl rfl c1 ?_
    refine E_blk rfl ?_
    refine E_ps 2 (pc' := 29) (l' := [some (.retAddr 0), some (.ref x1), some (.ref x2), some (.int x3)]) (st' := [.int x3, .retAddr 0]) rfl ?_
    obtain ⟨g2, h⟩ := ifg_some h
    refine E_si g2 ?_
    refine E_ps 2 (pc' := 33) (l' := [some (.retAddr 0), some (.ref x1), some (.ref x2), some (.int x3)]) (st' := [.int ((xs x3.toNatClampNeg) &&& (63 : Int32))]) rfl ?_
    by_cases c3 : ((xs x3.toNatClampNeg) &&& (63 : Int32)) = 0
    · rw [if_pos c3] at h
      refine E_j (pc' := 208) rfl (by rw [c3]; rfl) ?_
      refine E_blk rfl ?_
      refine E_ps 5 (pc' := 213) (l' := [some (.retAddr 0), some (.ref x1), some (.ref x2), some (.int x3)]) (st' := [.int (x3 + (1 : Int32)), .retAddr 0, .ref x1]) rfl ?_
      obtain ⟨g4, h⟩ := ifg_some h
      refine E_si g4 ?_
      refine E_ps 4 (pc' := 218) (l' := [some (.retAddr 0), some (.ref x1), some (.ref x2), some (.int x3)]) (st' := [.int (x3 + (2 : Int32)), .retAddr 0, .int (xs (x3 + (1 : Int32)).toNatClampNeg), .ref x1]) rfl ?_
      obtain ⟨g5, h⟩ := ifg_some h
      refine E_si g5 ?_
      refine E_ps 4 (pc' := 223) (l' := [some (.retAddr 0), some (.ref x1), some (.ref x2), some (.int x3)]) (st' := [.int (x3 + (3 : Int32)), .retAddr 0, .int (xs (x3 + (2 : Int32)).toNatClampNeg), .int (xs (x3 + (1 : Int32)).toNatClampNeg), .ref x1]) rfl ?_
      obtain ⟨g6, h⟩ := ifg_some h
      refine E_si g6 ?_
      refine E_ps 4 (pc' := 228) (l' := [some (.retAddr 0), some (.ref x1), some (.ref x2), some (.int x3)]) (st' := [.int (x3 + (4 : Int32)), .retAddr 0, .int (xs (x3 + (3 : Int32)).toNatClampNeg), .int (xs (x3 + (2 : Int32)).toNatClampNeg), .int (xs (x3 + (1 : Int32)).toNatClampNeg), .ref x1]) rfl ?_
      obtain ⟨g7, h⟩ := ifg_some h
      refine E_si g7 ?_
      refine E_ps 4 (pc' := 233) (l' := [some (.retAddr 0), some (.ref x1), some (.ref x2), some (.int x3)]) (st' := [.int (x3 + (5 : Int32)), .retAddr 0, .int (xs (x3 + (4 : Int32)).toNatClampNeg), .int (xs (x3 + (3 : Int32)).toNatClampNeg), .int (xs (x3 + (2 : Int32)).toNatClampNeg), .int (xs (x3 + (1 : Int32)).toNatClampNeg), .ref x1]) rfl ?_
      obtain ⟨g8, h⟩ := ifg_some h
      refine E_si g8 ?_
      obtain ⟨z9, e10, h⟩ := Option.bind_eq_some_iff.mp h
      refine E_callI (vs := [.ref x1, .int (xs (x3 + (1 : Int32)).toNatClampNeg), .int (xs (x3 + (2 : Int32)).toNatClampNeg), .int (xs (x3 + (3 : Int32)).toNatClampNeg), .int (xs (x3 + (4 : Int32)).toNatClampNeg), .int (xs (x3 + (5 : Int32)).toNatClampNeg)]) (rest := []) rfl (by decide) rfl rfl (Nat.le_of_ble_eq_true rfl) (s124 e10) (by decide) ?_
      refine E_ps 5 (pc' := 242) (l' := [some (.retAddr 0), some (.ref x1), some (.ref x2), some (.int x3)]) (st' := [.int (x3 + (1 : Int32)), .retAddr 0, .ref x2, .int z9.2]) rfl ?_
      obtain ⟨g11, h⟩ := ifg_some h
      refine E_si g11 ?_
      refine E_ps 4 (pc' := 247) (l' := [some (.retAddr 0), some (.ref x1), some (.ref x2), some (.int x3)]) (st' := [.int (x3 + (2 : Int32)), .retAddr 0, .int (xs (x3 + (1 : Int32)).toNatClampNeg), .ref x2, .int z9.2]) rfl ?_
      obtain ⟨g12, h⟩ := ifg_some h
      refine E_si g12 ?_
      refine E_ps 4 (pc' := 252) (l' := [some (.retAddr 0), some (.ref x1), some (.ref x2), some (.int x3)]) (st' := [.int (x3 + (3 : Int32)), .retAddr 0, .int (xs (x3 + (2 : Int32)).toNatClampNeg), .int (xs (x3 + (1 : Int32)).toNatClampNeg), .ref x2, .int z9.2]) rfl ?_
      obtain ⟨g13, h⟩ := ifg_some h
      refine E_si g13 ?_
      refine E_ps 4 (pc' := 257) (l' := [some (.retAddr 0), some (.ref x1), some (.ref x2), some (.int x3)]) (st' := [.int (x3 + (4 : Int32)), .retAddr 0, .int (xs (x3 + (3 : Int32)).toNatClampNeg), .int (xs (x3 + (2 : Int32)).toNatClampNeg), .int (xs (x3 + (1 : Int32)).toNatClampNeg), .ref x2, .int z9.2]) rfl ?_
      obtain ⟨g14, h⟩ := ifg_some h
      refine E_si g14 ?_
      refine E_ps 4 (pc' := 262) (l' := [some (.retAddr 0), some (.ref x1), some (.ref x2), some (.int x3)]) (st' := [.int (x3 + (5 : Int32)), .retAddr 0, .int (xs (x3 + (4 : Int32)).toNatClampNeg), .int (xs (x3 + (3 : Int32)).toNatClampNeg), .int (xs (x3 + (2 : Int32)).toNatClampNeg), .int (xs (x3 + (1 : Int32)).toNatClampNeg), .ref x2, .int z9.2]) rfl ?_
      obtain ⟨g15, h⟩ := ifg_some h
      refine E_si g15 ?_
      obtain ⟨z16, e17, h⟩ := Option.bind_eq_some_iff.mp h
      refine E_callI (vs := [.ref x2, .int (xs (x3 + (1 : Int32)).toNatClampNeg), .int (xs (x3 + (2 : Int32)).toNatClampNeg), .int (xs (x3 + (3 : Int32)).toNatClampNeg), .int (xs (x3 + (4 : Int32)).toNatClampNeg), .int (xs (x3 + (5 : Int32)).toNatClampNeg)]) (rest := [.int z9.2]) rfl (by decide) rfl rfl (Nat.le_of_ble_eq_true rfl) (s282 e17) (by decide) ?_
      by_cases c18 : z9.2 = z16.2
      · rw [if_pos c18] at h
        refine E_jt rfl rfl c18 ?_
        exact E_wk (l' := [some (.retAddr 0), some (.ref x1), some (.ref x2), some (.int x3)]) ⟨rfl, rfl, rfl, rfl, trivial⟩ (s0_1622 k1 k2 h hr)
      · rw [if_neg c18] at h
        refine E_jf rfl rfl c18 ?_
        obtain ⟨r, h, hr⟩ := lf_some (Dn := dn0_18 L xs x1 x2 o) h hr
        refine E_blk rfl ?_
        refine E_ps 1 (pc' := 270) (l' := [some (.retAddr 0), some (.ref x1), some (.ref x2), some (.int x3)]) (st' := [.int (0 : Int32)]) rfl ?_
        cases h
        exact E_ret rfl (pg_mt_md (by decide)) rfl hr
    · rw [if_neg c3] at h
      by_cases c19 : ((xs x3.toNatClampNeg) &&& (63 : Int32)) = 1
      · rw [if_pos c19] at h
        refine E_j (pc' := 271) rfl (by rw [c19]; rfl) ?_
        refine E_blk rfl ?_
        refine E_ps 5 (pc' := 276) (l' := [some (.retAddr 0), some (.ref x1), some (.ref x2), some (.int x3)]) (st' := [.int (x3 + (1 : Int32)), .retAddr 0, .ref x1]) rfl ?_
        obtain ⟨g20, h⟩ := ifg_some h
        refine E_si g20 ?_
        obtain ⟨z21, e22, h⟩ := Option.bind_eq_some_iff.mp h
        refine E_callI (vs := [.ref x1, .int (xs (x3 + (1 : Int32)).toNatClampNeg)]) (rest := []) rfl (by decide) rfl rfl (Nat.le_of_ble_eq_true rfl) (s125 e22) (by decide) ?_
        refine E_ps 5 (pc' := 285) (l' := [some (.retAddr 0), some (.ref x1), some (.ref x2), some (.int x3)]) (st' := [.int (x3 + (1 : Int32)), .retAddr 0, .ref x2, .int z21.2]) rfl ?_
        obtain ⟨g23, h⟩ := ifg_some h
        refine E_si g23 ?_
        obtain ⟨z24, e25, h⟩ := Option.bind_eq_some_iff.mp h
        refine E_callI (vs := [.ref x2, .int (xs (x3 + (1 : Int32)).toNatClampNeg)]) (rest := [.int z21.2]) rfl (by decide) rfl rfl (Nat.le_of_ble_eq_true rfl) (s283 e25) (by decide) ?_
        by_cases c26 : z21.2 = z24.2
        · rw [if_pos c26] at h
          refine E_jt rfl rfl c26 ?_
          exact E_wk (l' := [some (.retAddr 0), some (.ref x1), some (.ref x2), some (.int x3)]) ⟨rfl, rfl, rfl, rfl, trivial⟩ (s0_1622 k1 k2 h hr)
        · rw [if_neg c26] at h
          refine E_jf rfl rfl c26 ?_
          obtain ⟨r, h, hr⟩ := lf_some (Dn := dn0_18 L xs x1 x2 o) h hr
          refine E_blk rfl ?_
          refine E_ps 1 (pc' := 293) (l' := [some (.retAddr 0), some (.ref x1), some (.ref x2), some (.int x3)]) (st' := [.int (0 : Int32)]) rfl ?_
          cases h
          exact E_ret rfl (pg_mt_md (by decide)) rfl hr
      · rw [if_neg c19] at h
        by_cases c27 : ((xs x3.toNatClampNeg) &&& (63 : Int32)) = 2
        · rw [if_pos c27] at h
          refine E_j (pc' := 294) rfl (by rw [c27]; rfl) ?_
          refine E_blk rfl ?_
          refine E_ps 1 (pc' := 295) (l' := [some (.retAddr 0), some (.ref x1), some (.ref x2), some (.int x3)]) (st' := [.ref x1]) rfl ?_
          obtain ⟨z28, e29, h⟩ := Option.bind_eq_some_iff.mp h
          refine E_callI (vs := [.ref x1]) (rest := []) rfl (by decide) rfl rfl (Nat.le_of_ble_eq_true rfl) (s126 e29) (by decide) ?_
          refine E_ps 1 (pc' := 299) (l' := [some (.retAddr 0), some (.ref x1), some (.ref x2), some (.int x3)]) (st' := [.ref x2, .int z28.2]) rfl ?_
          obtain ⟨z30, e31, h⟩ := Option.bind_eq_some_iff.mp h
          refine E_callI (vs := [.ref x2]) (rest := [.int z28.2]) rfl (by decide) rfl rfl (Nat.le_of_ble_eq_true rfl) (s187 e31) (by decide) ?_
          by_cases c32 : z28.2 = z30.2
          · rw [if_pos c32] at h
            refine E_jt rfl rfl c32 ?_
            exact E_wk (l' := [some (.retAddr 0), some (.ref x1), some (.ref x2), some (.int x3)]) ⟨rfl, rfl, rfl, rfl, trivial⟩ (s0_1622 k1 k2 h hr)
          · rw [if_neg c32] at h
            refine E_jf rfl rfl c32 ?_
            obtain ⟨r, h, hr⟩ := lf_some (Dn := dn0_18 L xs x1 x2 o) h hr
            refine E_blk rfl ?_
            refine E_ps 1 (pc' := 306) (l' := [some (.retAddr 0), some (.ref x1), some (.ref x2), some (.int x3)]) (st' := [.int (0 : Int32)]) rfl ?_
            cases h
            exact E_ret rfl (pg_mt_md (by decide)) rfl hr
        · rw [if_neg c27] at h
          by_cases c33 : ((xs x3.toNatClampNeg) &&& (63 : Int32)) = 3
          · rw [if_pos c33] at h
            refine E_j (pc' := 307) rfl (by rw [c33]; rfl) ?_
            refine E_blk rfl ?_
            refine E_ps 1 (pc' := 308) (l' := [some (.retAddr 0), some (.ref x1), some (.ref x2), some (.int x3)]) (st' := [.ref x1]) rfl ?_
            obtain ⟨z34, e35, h⟩ := Option.bind_eq_some_iff.mp h
            refine E_callI (vs := [.ref x1]) (rest := []) rfl (by decide) rfl rfl (Nat.le_of_ble_eq_true rfl) (s127 e35) (by decide) ?_
            refine E_ps 1 (pc' := 312) (l' := [some (.retAddr 0), some (.ref x1), some (.ref x2), some (.int x3)]) (st' := [.ref x2, .int z34.2]) rfl ?_
            obtain ⟨z36, e37, h⟩ := Option.bind_eq_some_iff.mp h
            refine E_callI (vs := [.ref x2]) (rest := [.int z34.2]) rfl (by decide) rfl rfl (Nat.le_of_ble_eq_true rfl) (s192 e37) (by decide) ?_
            by_cases c38 : z34.2 = z36.2
            · rw [if_pos c38] at h
              refine E_jt rfl rfl c38 ?_
              exact E_wk (l' := [some (.retAddr 0), some (.ref x1), some (.ref x2), some (.int x3)]) ⟨rfl, rfl, rfl, rfl, trivial⟩ (s0_1622 k1 k2 h hr)
            · rw [if_neg c38] at h
              refine E_jf rfl rfl c38 ?_
              obtain ⟨r, h, hr⟩ := lf_some (Dn := dn0_18 L xs x1 x2 o) h hr
              refine E_blk rfl ?_
              refine E_ps 1 (pc' := 319) (l' := [some (.retAddr 0), some (.ref x1), some (.ref x2), some (.int x3)]) (st' := [.int (0 : Int32)]) rfl ?_
              cases h
              exact E_ret rfl (pg_mt_md (by decide)) rfl hr
          · rw [if_neg c33] at h
            by_cases c39 : ((xs x3.toNatClampNeg) &&& (63 : Int32)) = 4
            · rw [if_pos c39] at h
              refine E_j (pc' := 320) rfl (by rw [c39]; rfl) ?_
              refine E_blk rfl ?_
              refine E_ps 5 (pc' := 325) (l' := [some (.retAddr 0), some (.ref x1), some (.ref x2), some (.int x3)]) (st' := [.int (x3 + (1 : Int32)), .retAddr 0, .ref x1]) rfl ?_
              obtain ⟨g40, h⟩ := ifg_some h
              refine E_si g40 ?_
              obtain ⟨z41, e42, h⟩ := Option.bind_eq_some_iff.mp h
              refine E_callI (vs := [.ref x1, .int (xs (x3 + (1 : Int32)).toNatClampNeg)]) (rest := []) rfl (by decide) rfl rfl (Nat.le_of_ble_eq_true rfl) (s128 e42) (by decide) ?_
              refine E_ps 5 (pc' := 334) (l' := [some (.retAddr 0), some (.ref x1), some (.ref x2), some (.int x3)]) (st' := [.int (x3 + (1 : Int32)), .retAddr 0, .ref x2, .int z41.2]) rfl ?_
              obtain ⟨g43, h⟩ := ifg_some h
              refine E_si g43 ?_
              obtain ⟨z44, e45, h⟩ := Option.bind_eq_some_iff.mp h
              refine E_callI (vs := [.ref x2, .int (xs (x3 + (1 : Int32)).toNatClampNeg)]) (rest := [.int z41.2]) rfl (by decide) rfl rfl (Nat.le_of_ble_eq_true rfl) (s191 e45) (by decide) ?_
              by_cases c46 : z41.2 = z44.2
              · rw [if_pos c46] at h
                refine E_jt rfl rfl c46 ?_
                exact E_wk (l' := [some (.retAddr 0), some (.ref x1), some (.ref x2), some (.int x3)]) ⟨rfl, rfl, rfl, rfl, trivial⟩ (s0_1622 k1 k2 h hr)
              · rw [if_neg c46] at h
                refine E_jf rfl rfl c46 ?_
                obtain ⟨r, h, hr⟩ := lf_some (Dn := dn0_18 L xs x1 x2 o) h hr
                refine E_blk rfl ?_
                refine E_ps 1 (pc' := 342) (l' := [some (.retAddr 0), some (.ref x1), some (.ref x2), some (.int x3)]) (st' := [.int (0 : Int32)]) rfl ?_
                cases h
                exact E_ret rfl (pg_mt_md (by decide)) rfl hr
            · rw [if_neg c39] at h
              by_cases c47 : ((xs x3.toNatClampNeg) &&& (63 : Int32)) = 5
              · rw [if_pos c47] at h
                refine E_j (pc' := 343) rfl (by rw [c47]; rfl) ?_
                refine E_blk rfl ?_
                refine E_ps 5 (pc' := 348) (l' := [some (.retAddr 0), some (.ref x1), some (.ref x2), some (.int x3)]) (st' := [.int (x3 + (1 : Int32)), .retAddr 0, .ref x1]) rfl ?_
                obtain ⟨g48, h⟩ := ifg_some h
                refine E_si g48 ?_
                refine E_ps 4 (pc' := 353) (l' := [some (.retAddr 0), some (.ref x1), some (.ref x2), some (.int x3)]) (st' := [.int (x3 + (2 : Int32)), .retAddr 0, .int (xs (x3 + (1 : Int32)).toNatClampNeg), .ref x1]) rfl ?_
                obtain ⟨g49, h⟩ := ifg_some h
                refine E_si g49 ?_
                obtain ⟨z50, e51, h⟩ := Option.bind_eq_some_iff.mp h
                refine E_callI (vs := [.ref x1, .int (xs (x3 + (1 : Int32)).toNatClampNeg), .int (xs (x3 + (2 : Int32)).toNatClampNeg)]) (rest := []) rfl (by decide) rfl rfl (Nat.le_of_ble_eq_true rfl) (s129 e51) (by decide) ?_
                refine E_ps 5 (pc' := 362) (l' := [some (.retAddr 0), some (.ref x1), some (.ref x2), some (.int x3)]) (st' := [.int (x3 + (1 : Int32)), .retAddr 0, .ref x2, .int z50.2]) rfl ?_
                obtain ⟨g52, h⟩ := ifg_some h
                refine E_si g52 ?_
                refine E_ps 4 (pc' := 367) (l' := [some (.retAddr 0), some (.ref x1), some (.ref x2), some (.int x3)]) (st' := [.int (x3 + (2 : Int32)), .retAddr 0, .int (xs (x3 + (1 : Int32)).toNatClampNeg), .ref x2, .int z50.2]) rfl ?_
                obtain ⟨g53, h⟩ := ifg_some h
                refine E_si g53 ?_
                obtain ⟨z54, e55, h⟩ := Option.bind_eq_some_iff.mp h
                refine E_callI (vs := [.ref x2, .int (xs (x3 + (1 : Int32)).toNatClampNeg), .int (xs (x3 + (2 : Int32)).toNatClampNeg)]) (rest := [.int z50.2]) rfl (by decide) rfl rfl (Nat.le_of_ble_eq_true rfl) (s200 e55) (by decide) ?_
                by_cases c56 : z50.2 = z54.2
                · rw [if_pos c56] at h
                  refine E_jt rfl rfl c56 ?_
                  exact E_wk (l' := [some (.retAddr 0), some (.ref x1), some (.ref x2), some (.int x3)]) ⟨rfl, rfl, rfl, rfl, trivial⟩ (s0_1622 k1 k2 h hr)
                · rw [if_neg c56] at h
                  refine E_jf rfl rfl c56 ?_
                  obtain ⟨r, h, hr⟩ := lf_some (Dn := dn0_18 L xs x1 x2 o) h hr
                  refine E_blk rfl ?_
                  refine E_ps 1 (pc' := 375) (l' := [some (.retAddr 0), some (.ref x1), some (.ref x2), some (.int x3)]) (st' := [.int (0 : Int32)]) rfl ?_
                  cases h
                  exact E_ret rfl (pg_mt_md (by decide)) rfl hr
              · rw [if_neg c47] at h
                by_cases c57 : ((xs x3.toNatClampNeg) &&& (63 : Int32)) = 6
                · rw [if_pos c57] at h
                  refine E_j (pc' := 376) rfl (by rw [c57]; rfl) ?_
                  refine E_blk rfl ?_
                  refine E_ps 5 (pc' := 381) (l' := [some (.retAddr 0), some (.ref x1), some (.ref x2), some (.int x3)]) (st' := [.int (x3 + (1 : Int32)), .retAddr 0, .ref x1]) rfl ?_
                  obtain ⟨g58, h⟩ := ifg_some h
                  refine E_si g58 ?_
                  refine E_ps 4 (pc' := 386) (l' := [some (.retAddr 0), some (.ref x1), some (.ref x2), some (.int x3)]) (st' := [.int (x3 + (2 : Int32)), .retAddr 0, .int (xs (x3 + (1 : Int32)).toNatClampNeg), .ref x1]) rfl ?_
                  obtain ⟨g59, h⟩ := ifg_some h
                  refine E_si g59 ?_
                  obtain ⟨z60, e61, h⟩ := Option.bind_eq_some_iff.mp h
                  refine E_callI (vs := [.ref x1, .int (xs (x3 + (1 : Int32)).toNatClampNeg), .int (xs (x3 + (2 : Int32)).toNatClampNeg)]) (rest := []) rfl (by decide) rfl rfl (Nat.le_of_ble_eq_true rfl) (s130 e61) (by decide) ?_
                  refine E_ps 5 (pc' := 395) (l' := [some (.retAddr 0), some (.ref x1), some (.ref x2), some (.int x3)]) (st' := [.int (x3 + (1 : Int32)), .retAddr 0, .ref x2, .int z60.2]) rfl ?_
                  obtain ⟨g62, h⟩ := ifg_some h
                  refine E_si g62 ?_
                  refine E_ps 4 (pc' := 400) (l' := [some (.retAddr 0), some (.ref x1), some (.ref x2), some (.int x3)]) (st' := [.int (x3 + (2 : Int32)), .retAddr 0, .int (xs (x3 + (1 : Int32)).toNatClampNeg), .ref x2, .int z60.2]) rfl ?_
                  obtain ⟨g63, h⟩ := ifg_some h
                  refine E_si g63 ?_
                  obtain ⟨z64, e65, h⟩ := Option.bind_eq_some_iff.mp h
                  refine E_callI (vs := [.ref x2, .int (xs (x3 + (1 : Int32)).toNatClampNeg), .int (xs (x3 + (2 : Int32)).toNatClampNeg)]) (rest := [.int z60.2]) rfl (by decide) rfl rfl (Nat.le_of_ble_eq_true rfl) (s201 e65) (by decide) ?_
                  by_cases c66 : z60.2 = z64.2
                  · rw [if_pos c66] at h
                    refine E_jt rfl rfl c66 ?_
                    exact E_wk (l' := [some (.retAddr 0), some (.ref x1), some (.ref x2), some (.int x3)]) ⟨rfl, rfl, rfl, rfl, trivial⟩ (s0_1622 k1 k2 h hr)
                  · rw [if_neg c66] at h
                    refine E_jf rfl rfl c66 ?_
                    obtain ⟨r, h, hr⟩ := lf_some (Dn := dn0_18 L xs x1 x2 o) h hr
                    refine E_blk rfl ?_
                    refine E_ps 1 (pc' := 408) (l' := [some (.retAddr 0), some (.ref x1), some (.ref x2), some (.int x3)]) (st' := [.int (0 : Int32)]) rfl ?_
                    cases h
                    exact E_ret rfl (pg_mt_md (by decide)) rfl hr
                · rw [if_neg c57] at h
                  by_cases c67 : ((xs x3.toNatClampNeg) &&& (63 : Int32)) = 7
                  · rw [if_pos c67] at h
                    refine E_j (pc' := 409) rfl (by rw [c67]; rfl) ?_
                    refine E_blk rfl ?_
                    refine E_ps 5 (pc' := 414) (l' := [some (.retAddr 0), some (.ref x1), some (.ref x2), some (.int x3)]) (st' := [.int (x3 + (1 : Int32)), .retAddr 0, .ref x1]) rfl ?_
                    obtain ⟨g68, h⟩ := ifg_some h
                    refine E_si g68 ?_
                    refine E_ps 4 (pc' := 419) (l' := [some (.retAddr 0), some (.ref x1), some (.ref x2), some (.int x3)]) (st' := [.int (x3 + (2 : Int32)), .retAddr 0, .int (xs (x3 + (1 : Int32)).toNatClampNeg), .ref x1]) rfl ?_
                    obtain ⟨g69, h⟩ := ifg_some h
                    refine E_si g69 ?_
                    refine E_ps 4 (pc' := 424) (l' := [some (.retAddr 0), some (.ref x1), some (.ref x2), some (.int x3)]) (st' := [.int (x3 + (3 : Int32)), .retAddr 0, .int (xs (x3 + (2 : Int32)).toNatClampNeg), .int (xs (x3 + (1 : Int32)).toNatClampNeg), .ref x1]) rfl ?_
                    obtain ⟨g70, h⟩ := ifg_some h
                    refine E_si g70 ?_
                    refine E_ps 4 (pc' := 429) (l' := [some (.retAddr 0), some (.ref x1), some (.ref x2), some (.int x3)]) (st' := [.int (x3 + (4 : Int32)), .retAddr 0, .int (xs (x3 + (3 : Int32)).toNatClampNeg), .int (xs (x3 + (2 : Int32)).toNatClampNeg), .int (xs (x3 + (1 : Int32)).toNatClampNeg), .ref x1]) rfl ?_
                    obtain ⟨g71, h⟩ := ifg_some h
                    refine E_si g71 ?_
                    refine E_ps 4 (pc' := 434) (l' := [some (.retAddr 0), some (.ref x1), some (.ref x2), some (.int x3)]) (st' := [.int (x3 + (5 : Int32)), .retAddr 0, .int (xs (x3 + (4 : Int32)).toNatClampNeg), .int (xs (x3 + (3 : Int32)).toNatClampNeg), .int (xs (x3 + (2 : Int32)).toNatClampNeg), .int (xs (x3 + (1 : Int32)).toNatClampNeg), .ref x1]) rfl ?_
                    obtain ⟨g72, h⟩ := ifg_some h
                    refine E_si g72 ?_
                    refine E_ps 4 (pc' := 440) (l' := [some (.retAddr 0), some (.ref x1), some (.ref x2), some (.int x3)]) (st' := [.int (x3 + (6 : Int32)), .retAddr 0, .int (xs (x3 + (5 : Int32)).toNatClampNeg), .int (xs (x3 + (4 : Int32)).toNatClampNeg), .int (xs (x3 + (3 : Int32)).toNatClampNeg), .int (xs (x3 + (2 : Int32)).toNatClampNeg), .int (xs (x3 + (1 : Int32)).toNatClampNeg), .ref x1]) rfl ?_
                    obtain ⟨g73, h⟩ := ifg_some h
                    refine E_si g73 ?_
                    obtain ⟨z74, e75, h⟩ := Option.bind_eq_some_iff.mp h
                    refine E_callI (vs := [.ref x1, .int (xs (x3 + (1 : Int32)).toNatClampNeg), .int (xs (x3 + (2 : Int32)).toNatClampNeg), .int (xs (x3 + (3 : Int32)).toNatClampNeg), .int (xs (x3 + (4 : Int32)).toNatClampNeg), .int (xs (x3 + (5 : Int32)).toNatClampNeg), .int (xs (x3 + (6 : Int32)).toNatClampNeg)]) (rest := []) rfl (by decide) rfl rfl (Nat.le_of_ble_eq_true rfl) (s131 e75) (by decide) ?_
                    refine E_ps 5 (pc' := 449) (l' := [some (.retAddr 0), some (.ref x1), some (.ref x2), some (.int x3)]) (st' := [.int (x3 + (1 : Int32)), .retAddr 0, .ref x2, .int z74.2]) rfl ?_
                    obtain ⟨g76, h⟩ := ifg_some h
                    refine E_si g76 ?_
                    refine E_ps 4 (pc' := 454) (l' := [some (.retAddr 0), some (.ref x1), some (.ref x2), some (.int x3)]) (st' := [.int (x3 + (2 : Int32)), .retAddr 0, .int (xs (x3 + (1 : Int32)).toNatClampNeg), .ref x2, .int z74.2]) rfl ?_
                    obtain ⟨g77, h⟩ := ifg_some h
                    refine E_si g77 ?_
                    refine E_ps 4 (pc' := 459) (l' := [some (.retAddr 0), some (.ref x1), some (.ref x2), some (.int x3)]) (st' := [.int (x3 + (3 : Int32)), .retAddr 0, .int (xs (x3 + (2 : Int32)).toNatClampNeg), .int (xs (x3 + (1 : Int32)).toNatClampNeg), .ref x2, .int z74.2]) rfl ?_
                    obtain ⟨g78, h⟩ := ifg_some h
                    refine E_si g78 ?_
                    refine E_ps 4 (pc' := 464) (l' := [some (.retAddr 0), some (.ref x1), some (.ref x2), some (.int x3)]) (st' := [.int (x3 + (4 : Int32)), .retAddr 0, .int (xs (x3 + (3 : Int32)).toNatClampNeg), .int (xs (x3 + (2 : Int32)).toNatClampNeg), .int (xs (x3 + (1 : Int32)).toNatClampNeg), .ref x2, .int z74.2]) rfl ?_
                    obtain ⟨g79, h⟩ := ifg_some h
                    refine E_si g79 ?_
                    refine E_ps 4 (pc' := 469) (l' := [some (.retAddr 0), some (.ref x1), some (.ref x2), some (.int x3)]) (st' := [.int (x3 + (5 : Int32)), .retAddr 0, .int (xs (x3 + (4 : Int32)).toNatClampNeg), .int (xs (x3 + (3 : Int32)).toNatClampNeg), .int (xs (x3 + (2 : Int32)).toNatClampNeg), .int (xs (x3 + (1 : Int32)).toNatClampNeg), .ref x2, .int z74.2]) rfl ?_
                    obtain ⟨g80, h⟩ := ifg_some h
                    refine E_si g80 ?_
                    refine E_ps 4 (pc' := 475) (l' := [some (.retAddr 0), some (.ref x1), some (.ref x2), some (.int x3)]) (st' := [.int (x3 + (6 : Int32)), .retAddr 0, .int (xs (x3 + (5 : Int32)).toNatClampNeg), .int (xs (x3 + (4 : Int32)).toNatClampNeg), .int (xs (x3 + (3 : Int32)).toNatClampNeg), .int (xs (x3 + (2 : Int32)).toNatClampNeg), .int (xs (x3 + (1 : Int32)).toNatClampNeg), .ref x2, .int z74.2]) rfl ?_
                    obtain ⟨g81, h⟩ := ifg_some h
                    refine E_si g81 ?_
                    obtain ⟨z82, e83, h⟩ := Option.bind_eq_some_iff.mp h
                    refine E_callI (vs := [.ref x2, .int (xs (x3 + (1 : Int32)).toNatClampNeg), .int (xs (x3 + (2 : Int32)).toNatClampNeg), .int (xs (x3 + (3 : Int32)).toNatClampNeg), .int (xs (x3 + (4 : Int32)).toNatClampNeg), .int (xs (x3 + (5 : Int32)).toNatClampNeg), .int (xs (x3 + (6 : Int32)).toNatClampNeg)]) (rest := [.int z74.2]) rfl (by decide) rfl rfl (Nat.le_of_ble_eq_true rfl) (s220 e83) (by decide) ?_
                    by_cases c84 : z74.2 = z82.2
                    · rw [if_pos c84] at h
                      refine E_jt rfl rfl c84 ?_
                      exact E_wk (l' := [some (.retAddr 0), some (.ref x1), some (.ref x2), some (.int x3)]) ⟨rfl, rfl, rfl, rfl, trivial⟩ (s0_1622 k1 k2 h hr)
                    · rw [if_neg c84] at h
                      refine E_jf rfl rfl c84 ?_
                      obtain ⟨r, h, hr⟩ := lf_some (Dn := dn0_18 L xs x1 x2 o) h hr
                      refine E_blk rfl ?_
                      refine E_ps 1 (pc' := 483) (l' := [some (.retAddr 0), some (.ref x1), some (.ref x2), some (.int x3)]) (st' := [.int (0 : Int32)]) rfl ?_
                      cases h
                      exact E_ret rfl (pg_mt_md (by decide)) rfl hr
                  · rw [if_neg c67] at h
                    by_cases c85 : ((xs x3.toNatClampNeg) &&& (63 : Int32)) = 8
                    · rw [if_pos c85] at h
                      refine E_j (pc' := 484) rfl (by rw [c85]; rfl) ?_
                      refine E_blk rfl ?_
                      refine E_ps 5 (pc' := 489) (l' := [some (.retAddr 0), some (.ref x1), some (.ref x2), some (.int x3)]) (st' := [.int (x3 + (1 : Int32)), .retAddr 0, .ref x1]) rfl ?_
                      obtain ⟨g86, h⟩ := ifg_some h
                      refine E_si g86 ?_
                      refine E_ps 4 (pc' := 494) (l' := [some (.retAddr 0), some (.ref x1), some (.ref x2), some (.int x3)]) (st' := [.int (x3 + (2 : Int32)), .retAddr 0, .int (xs (x3 + (1 : Int32)).toNatClampNeg), .ref x1]) rfl ?_
                      obtain ⟨g87, h⟩ := ifg_some h
                      refine E_si g87 ?_
                      refine E_ps 4 (pc' := 499) (l' := [some (.retAddr 0), some (.ref x1), some (.ref x2), some (.int x3)]) (st' := [.int (x3 + (3 : Int32)), .retAddr 0, .int (xs (x3 + (2 : Int32)).toNatClampNeg), .int (xs (x3 + (1 : Int32)).toNatClampNeg), .ref x1]) rfl ?_
                      obtain ⟨g88, h⟩ := ifg_some h
                      refine E_si g88 ?_
                      refine E_ps 4 (pc' := 504) (l' := [some (.retAddr 0), some (.ref x1), some (.ref x2), some (.int x3)]) (st' := [.int (x3 + (4 : Int32)), .retAddr 0, .int (xs (x3 + (3 : Int32)).toNatClampNeg), .int (xs (x3 + (2 : Int32)).toNatClampNeg), .int (xs (x3 + (1 : Int32)).toNatClampNeg), .ref x1]) rfl ?_
                      obtain ⟨g89, h⟩ := ifg_some h
                      refine E_si g89 ?_
                      refine E_ps 4 (pc' := 509) (l' := [some (.retAddr 0), some (.ref x1), some (.ref x2), some (.int x3)]) (st' := [.int (x3 + (5 : Int32)), .retAddr 0, .int (xs (x3 + (4 : Int32)).toNatClampNeg), .int (xs (x3 + (3 : Int32)).toNatClampNeg), .int (xs (x3 + (2 : Int32)).toNatClampNeg), .int (xs (x3 + (1 : Int32)).toNatClampNeg), .ref x1]) rfl ?_
                      obtain ⟨g90, h⟩ := ifg_some h
                      refine E_si g90 ?_
                      refine E_ps 4 (pc' := 515) (l' := [some (.retAddr 0), some (.ref x1), some (.ref x2), some (.int x3)]) (st' := [.int (x3 + (6 : Int32)), .retAddr 0, .int (xs (x3 + (5 : Int32)).toNatClampNeg), .int (xs (x3 + (4 : Int32)).toNatClampNeg), .int (xs (x3 + (3 : Int32)).toNatClampNeg), .int (xs (x3 + (2 : Int32)).toNatClampNeg), .int (xs (x3 + (1 : Int32)).toNatClampNeg), .ref x1]) rfl ?_
                      obtain ⟨g91, h⟩ := ifg_some h
                      refine E_si g91 ?_
                      refine E_ps 4 (pc' := 521) (l' := [some (.retAddr 0), some (.ref x1), some (.ref x2), some (.int x3)]) (st' := [.int (x3 + (7 : Int32)), .retAddr 0, .int (xs (x3 + (6 : Int32)).toNatClampNeg), .int (xs (x3 + (5 : Int32)).toNatClampNeg), .int (xs (x3 + (4 : Int32)).toNatClampNeg), .int (xs (x3 + (3 : Int32)).toNatClampNeg), .int (xs (x3 + (2 : Int32)).toNatClampNeg), .int (xs (x3 + (1 : Int32)).toNatClampNeg), .ref x1]) rfl ?_
                      obtain ⟨g92, h⟩ := ifg_some h
                      refine E_si g92 ?_
                      obtain ⟨z93, e94, h⟩ := Option.bind_eq_some_iff.mp h
                      refine E_callI (vs := [.ref x1, .int (xs (x3 + (1 : Int32)).toNatClampNeg), .int (xs (x3 + (2 : Int32)).toNatClampNeg), .int (xs (x3 + (3 : Int32)).toNatClampNeg), .int (xs (x3 + (4 : Int32)).toNatClampNeg), .int (xs (x3 + (5 : Int32)).toNatClampNeg), .int (xs (x3 + (6 : Int32)).toNatClampNeg), .int (xs (x3 + (7 : Int32)).toNatClampNeg)]) (rest := []) rfl (by decide) rfl rfl (Nat.le_of_ble_eq_true rfl) (s132 e94) (by decide) ?_
                      refine E_ps 5 (pc' := 530) (l' := [some (.retAddr 0), some (.ref x1), some (.ref x2), some (.int x3)]) (st' := [.int (x3 + (1 : Int32)), .retAddr 0, .ref x2, .int z93.2]) rfl ?_
                      obtain ⟨g95, h⟩ := ifg_some h
                      refine E_si g95 ?_
                      refine E_ps 4 (pc' := 535) (l' := [some (.retAddr 0), some (.ref x1), some (.ref x2), some (.int x3)]) (st' := [.int (x3 + (2 : Int32)), .retAddr 0, .int (xs (x3 + (1 : Int32)).toNatClampNeg), .ref x2, .int z93.2]) rfl ?_
                      obtain ⟨g96, h⟩ := ifg_some h
                      refine E_si g96 ?_
                      refine E_ps 4 (pc' := 540) (l' := [some (.retAddr 0), some (.ref x1), some (.ref x2), some (.int x3)]) (st' := [.int (x3 + (3 : Int32)), .retAddr 0, .int (xs (x3 + (2 : Int32)).toNatClampNeg), .int (xs (x3 + (1 : Int32)).toNatClampNeg), .ref x2, .int z93.2]) rfl ?_
                      obtain ⟨g97, h⟩ := ifg_some h
                      refine E_si g97 ?_
                      refine E_ps 4 (pc' := 545) (l' := [some (.retAddr 0), some (.ref x1), some (.ref x2), some (.int x3)]) (st' := [.int (x3 + (4 : Int32)), .retAddr 0, .int (xs (x3 + (3 : Int32)).toNatClampNeg), .int (xs (x3 + (2 : Int32)).toNatClampNeg), .int (xs (x3 + (1 : Int32)).toNatClampNeg), .ref x2, .int z93.2]) rfl ?_
                      obtain ⟨g98, h⟩ := ifg_some h
                      refine E_si g98 ?_
                      refine E_ps 4 (pc' := 550) (l' := [some (.retAddr 0), some (.ref x1), some (.ref x2), some (.int x3)]) (st' := [.int (x3 + (5 : Int32)), .retAddr 0, .int (xs (x3 + (4 : Int32)).toNatClampNeg), .int (xs (x3 + (3 : Int32)).toNatClampNeg), .int (xs (x3 + (2 : Int32)).toNatClampNeg), .int (xs (x3 + (1 : Int32)).toNatClampNeg), .ref x2, .int z93.2]) rfl ?_
                      obtain ⟨g99, h⟩ := ifg_some h
                      refine E_si g99 ?_
                      refine E_ps 4 (pc' := 556) (l' := [some (.retAddr 0), some (.ref x1), some (.ref x2), some (.int x3)]) (st' := [.int (x3 + (6 : Int32)), .retAddr 0, .int (xs (x3 + (5 : Int32)).toNatClampNeg), .int (xs (x3 + (4 : Int32)).toNatClampNeg), .int (xs (x3 + (3 : Int32)).toNatClampNeg), .int (xs (x3 + (2 : Int32)).toNatClampNeg), .int (xs (x3 + (1 : Int32)).toNatClampNeg), .ref x2, .int z93.2]) rfl ?_
                      obtain ⟨g100, h⟩ := ifg_some h
                      refine E_si g100 ?_
                      refine E_ps 4 (pc' := 562) (l' := [some (.retAddr 0), some (.ref x1), some (.ref x2), some (.int x3)]) (st' := [.int (x3 + (7 : Int32)), .retAddr 0, .int (xs (x3 + (6 : Int32)).toNatClampNeg), .int (xs (x3 + (5 : Int32)).toNatClampNeg), .int (xs (x3 + (4 : Int32)).toNatClampNeg), .int (xs (x3 + (3 : Int32)).toNatClampNeg), .int (xs (x3 + (2 : Int32)).toNatClampNeg), .int (xs (x3 + (1 : Int32)).toNatClampNeg), .ref x2, .int z93.2]) rfl ?_
                      obtain ⟨g101, h⟩ := ifg_some h
                      refine E_si g101 ?_
                      obtain ⟨z102, e103, h⟩ := Option.bind_eq_some_iff.mp h
                      refine E_callI (vs := [.ref x2, .int (xs (x3 + (1 : Int32)).toNatClampNeg), .int (xs (x3 + (2 : Int32)).toNatClampNeg), .int (xs (x3 + (3 : Int32)).toNatClampNeg), .int (xs (x3 + (4 : Int32)).toNatClampNeg), .int (xs (x3 + (5 : Int32)).toNatClampNeg), .int (xs (x3 + (6 : Int32)).toNatClampNeg), .int (xs (x3 + (7 : Int32)).toNatClampNeg)]) (rest := [.int z93.2]) rfl (by decide) rfl rfl (Nat.le_of_ble_eq_true rfl) (s221 e103) (by decide) ?_
                      by_cases c104 : z93.2 = z102.2
                      · rw [if_pos c104] at h
                        refine E_jt rfl rfl c104 ?_
                        exact E_wk (l' := [some (.retAddr 0), some (.ref x1), some (.ref x2), some (.int x3)]) ⟨rfl, rfl, rfl, rfl, trivial⟩ (s0_1622 k1 k2 h hr)
                      · rw [if_neg c104] at h
                        refine E_jf rfl rfl c104 ?_
                        obtain ⟨r, h, hr⟩ := lf_some (Dn := dn0_18 L xs x1 x2 o) h hr
                        refine E_blk rfl ?_
                        refine E_ps 1 (pc' := 570) (l' := [some (.retAddr 0), some (.ref x1), some (.ref x2), some (.int x3)]) (st' := [.int (0 : Int32)]) rfl ?_
                        cases h
                        exact E_ret rfl (pg_mt_md (by decide)) rfl hr
                    · rw [if_neg c85] at h
                      by_cases c105 : ((xs x3.toNatClampNeg) &&& (63 : Int32)) = 9
                      · rw [if_pos c105] at h
                        refine E_j (pc' := 571) rfl (by rw [c105]; rfl) ?_
                        refine E_blk rfl ?_
                        refine E_ps 5 (pc' := 576) (l' := [some (.retAddr 0), some (.ref x1), some (.ref x2), some (.int x3)]) (st' := [.int (x3 + (1 : Int32)), .retAddr 0, .ref x1]) rfl ?_
                        obtain ⟨g106, h⟩ := ifg_some h
                        refine E_si g106 ?_
                        refine E_ps 4 (pc' := 581) (l' := [some (.retAddr 0), some (.ref x1), some (.ref x2), some (.int x3)]) (st' := [.int (x3 + (2 : Int32)), .retAddr 0, .int (xs (x3 + (1 : Int32)).toNatClampNeg), .ref x1]) rfl ?_
                        obtain ⟨g107, h⟩ := ifg_some h
                        refine E_si g107 ?_
                        refine E_ps 4 (pc' := 586) (l' := [some (.retAddr 0), some (.ref x1), some (.ref x2), some (.int x3)]) (st' := [.int (x3 + (3 : Int32)), .retAddr 0, .int (xs (x3 + (2 : Int32)).toNatClampNeg), .int (xs (x3 + (1 : Int32)).toNatClampNeg), .ref x1]) rfl ?_
                        obtain ⟨g108, h⟩ := ifg_some h
                        refine E_si g108 ?_
                        refine E_ps 4 (pc' := 591) (l' := [some (.retAddr 0), some (.ref x1), some (.ref x2), some (.int x3)]) (st' := [.int (x3 + (4 : Int32)), .retAddr 0, .int (xs (x3 + (3 : Int32)).toNatClampNeg), .int (xs (x3 + (2 : Int32)).toNatClampNeg), .int (xs (x3 + (1 : Int32)).toNatClampNeg), .ref x1]) rfl ?_
                        obtain ⟨g109, h⟩ := ifg_some h
                        refine E_si g109 ?_
                        refine E_ps 4 (pc' := 596) (l' := [some (.retAddr 0), some (.ref x1), some (.ref x2), some (.int x3)]) (st' := [.int (x3 + (5 : Int32)), .retAddr 0, .int (xs (x3 + (4 : Int32)).toNatClampNeg), .int (xs (x3 + (3 : Int32)).toNatClampNeg), .int (xs (x3 + (2 : Int32)).toNatClampNeg), .int (xs (x3 + (1 : Int32)).toNatClampNeg), .ref x1]) rfl ?_
                        obtain ⟨g110, h⟩ := ifg_some h
                        refine E_si g110 ?_
                        refine E_ps 4 (pc' := 602) (l' := [some (.retAddr 0), some (.ref x1), some (.ref x2), some (.int x3)]) (st' := [.int (x3 + (6 : Int32)), .retAddr 0, .int (xs (x3 + (5 : Int32)).toNatClampNeg), .int (xs (x3 + (4 : Int32)).toNatClampNeg), .int (xs (x3 + (3 : Int32)).toNatClampNeg), .int (xs (x3 + (2 : Int32)).toNatClampNeg), .int (xs (x3 + (1 : Int32)).toNatClampNeg), .ref x1]) rfl ?_
                        obtain ⟨g111, h⟩ := ifg_some h
                        refine E_si g111 ?_
                        obtain ⟨z112, e113, h⟩ := Option.bind_eq_some_iff.mp h
                        refine E_callL (vs := [.ref x1, .int (xs (x3 + (1 : Int32)).toNatClampNeg), .int (xs (x3 + (2 : Int32)).toNatClampNeg), .int (xs (x3 + (3 : Int32)).toNatClampNeg), .int (xs (x3 + (4 : Int32)).toNatClampNeg), .int (xs (x3 + (5 : Int32)).toNatClampNeg), .int (xs (x3 + (6 : Int32)).toNatClampNeg)]) (rest := []) rfl (by decide) rfl rfl (Nat.le_of_ble_eq_true rfl) (s133 e113) (by decide) ?_
                        refine E_ps 5 (pc' := 611) (l' := [some (.retAddr 0), some (.ref x1), some (.ref x2), some (.int x3)]) (st' := [.int (x3 + (1 : Int32)), .retAddr 0, .ref x2, .long z112.2]) rfl ?_
                        obtain ⟨g114, h⟩ := ifg_some h
                        refine E_si g114 ?_
                        refine E_ps 4 (pc' := 616) (l' := [some (.retAddr 0), some (.ref x1), some (.ref x2), some (.int x3)]) (st' := [.int (x3 + (2 : Int32)), .retAddr 0, .int (xs (x3 + (1 : Int32)).toNatClampNeg), .ref x2, .long z112.2]) rfl ?_
                        obtain ⟨g115, h⟩ := ifg_some h
                        refine E_si g115 ?_
                        refine E_ps 4 (pc' := 621) (l' := [some (.retAddr 0), some (.ref x1), some (.ref x2), some (.int x3)]) (st' := [.int (x3 + (3 : Int32)), .retAddr 0, .int (xs (x3 + (2 : Int32)).toNatClampNeg), .int (xs (x3 + (1 : Int32)).toNatClampNeg), .ref x2, .long z112.2]) rfl ?_
                        obtain ⟨g116, h⟩ := ifg_some h
                        refine E_si g116 ?_
                        refine E_ps 4 (pc' := 626) (l' := [some (.retAddr 0), some (.ref x1), some (.ref x2), some (.int x3)]) (st' := [.int (x3 + (4 : Int32)), .retAddr 0, .int (xs (x3 + (3 : Int32)).toNatClampNeg), .int (xs (x3 + (2 : Int32)).toNatClampNeg), .int (xs (x3 + (1 : Int32)).toNatClampNeg), .ref x2, .long z112.2]) rfl ?_
                        obtain ⟨g117, h⟩ := ifg_some h
                        refine E_si g117 ?_
                        refine E_ps 4 (pc' := 631) (l' := [some (.retAddr 0), some (.ref x1), some (.ref x2), some (.int x3)]) (st' := [.int (x3 + (5 : Int32)), .retAddr 0, .int (xs (x3 + (4 : Int32)).toNatClampNeg), .int (xs (x3 + (3 : Int32)).toNatClampNeg), .int (xs (x3 + (2 : Int32)).toNatClampNeg), .int (xs (x3 + (1 : Int32)).toNatClampNeg), .ref x2, .long z112.2]) rfl ?_
                        obtain ⟨g118, h⟩ := ifg_some h
                        refine E_si g118 ?_
                        refine E_ps 4 (pc' := 637) (l' := [some (.retAddr 0), some (.ref x1), some (.ref x2), some (.int x3)]) (st' := [.int (x3 + (6 : Int32)), .retAddr 0, .int (xs (x3 + (5 : Int32)).toNatClampNeg), .int (xs (x3 + (4 : Int32)).toNatClampNeg), .int (xs (x3 + (3 : Int32)).toNatClampNeg), .int (xs (x3 + (2 : Int32)).toNatClampNeg), .int (xs (x3 + (1 : Int32)).toNatClampNeg), .ref x2, .long z112.2]) rfl ?_
                        obtain ⟨g119, h⟩ := ifg_some h
                        refine E_si g119 ?_
                        obtain ⟨z120, e121, h⟩ := Option.bind_eq_some_iff.mp h
                        refine E_callL (vs := [.ref x2, .int (xs (x3 + (1 : Int32)).toNatClampNeg), .int (xs (x3 + (2 : Int32)).toNatClampNeg), .int (xs (x3 + (3 : Int32)).toNatClampNeg), .int (xs (x3 + (4 : Int32)).toNatClampNeg), .int (xs (x3 + (5 : Int32)).toNatClampNeg), .int (xs (x3 + (6 : Int32)).toNatClampNeg)]) (rest := [.long z112.2]) rfl (by decide) rfl rfl (Nat.le_of_ble_eq_true rfl) (s224 e121) (by decide) ?_
                        refine E_ps 1 (pc' := 642) (l' := [some (.retAddr 0), some (.ref x1), some (.ref x2), some (.int x3)]) (st' := [.int (lg_cmp z112.2 z120.2)]) rfl ?_
                        by_cases c122 : (lg_cmp z112.2 z120.2) = 0
                        · rw [if_pos c122] at h
                          refine E_jt rfl rfl c122 ?_
                          exact E_wk (l' := [some (.retAddr 0), some (.ref x1), some (.ref x2), some (.int x3)]) ⟨rfl, rfl, rfl, rfl, trivial⟩ (s0_1622 k1 k2 h hr)
                        · rw [if_neg c122] at h
                          refine E_jf rfl rfl c122 ?_
                          obtain ⟨r, h, hr⟩ := lf_some (Dn := dn0_18 L xs x1 x2 o) h hr
                          refine E_blk rfl ?_
                          refine E_ps 1 (pc' := 646) (l' := [some (.retAddr 0), some (.ref x1), some (.ref x2), some (.int x3)]) (st' := [.int (0 : Int32)]) rfl ?_
                          cases h
                          exact E_ret rfl (pg_mt_md (by decide)) rfl hr
                      · rw [if_neg c105] at h
                        by_cases c123 : ((xs x3.toNatClampNeg) &&& (63 : Int32)) = 10
                        · rw [if_pos c123] at h
                          refine E_j (pc' := 647) rfl (by rw [c123]; rfl) ?_
                          refine E_blk rfl ?_
                          refine E_ps 5 (pc' := 652) (l' := [some (.retAddr 0), some (.ref x1), some (.ref x2), some (.int x3)]) (st' := [.int (x3 + (1 : Int32)), .retAddr 0, .ref x1]) rfl ?_
                          obtain ⟨g124, h⟩ := ifg_some h
                          refine E_si g124 ?_
                          refine E_ps 4 (pc' := 657) (l' := [some (.retAddr 0), some (.ref x1), some (.ref x2), some (.int x3)]) (st' := [.int (x3 + (2 : Int32)), .retAddr 0, .int (xs (x3 + (1 : Int32)).toNatClampNeg), .ref x1]) rfl ?_
                          obtain ⟨g125, h⟩ := ifg_some h
                          refine E_si g125 ?_
                          refine E_ps 4 (pc' := 662) (l' := [some (.retAddr 0), some (.ref x1), some (.ref x2), some (.int x3)]) (st' := [.int (x3 + (3 : Int32)), .retAddr 0, .int (xs (x3 + (2 : Int32)).toNatClampNeg), .int (xs (x3 + (1 : Int32)).toNatClampNeg), .ref x1]) rfl ?_
                          obtain ⟨g126, h⟩ := ifg_some h
                          refine E_si g126 ?_
                          refine E_ps 4 (pc' := 667) (l' := [some (.retAddr 0), some (.ref x1), some (.ref x2), some (.int x3)]) (st' := [.int (x3 + (4 : Int32)), .retAddr 0, .int (xs (x3 + (3 : Int32)).toNatClampNeg), .int (xs (x3 + (2 : Int32)).toNatClampNeg), .int (xs (x3 + (1 : Int32)).toNatClampNeg), .ref x1]) rfl ?_
                          obtain ⟨g127, h⟩ := ifg_some h
                          refine E_si g127 ?_
                          refine E_ps 4 (pc' := 672) (l' := [some (.retAddr 0), some (.ref x1), some (.ref x2), some (.int x3)]) (st' := [.int (x3 + (5 : Int32)), .retAddr 0, .int (xs (x3 + (4 : Int32)).toNatClampNeg), .int (xs (x3 + (3 : Int32)).toNatClampNeg), .int (xs (x3 + (2 : Int32)).toNatClampNeg), .int (xs (x3 + (1 : Int32)).toNatClampNeg), .ref x1]) rfl ?_
                          obtain ⟨g128, h⟩ := ifg_some h
                          refine E_si g128 ?_
                          refine E_ps 4 (pc' := 678) (l' := [some (.retAddr 0), some (.ref x1), some (.ref x2), some (.int x3)]) (st' := [.int (x3 + (6 : Int32)), .retAddr 0, .int (xs (x3 + (5 : Int32)).toNatClampNeg), .int (xs (x3 + (4 : Int32)).toNatClampNeg), .int (xs (x3 + (3 : Int32)).toNatClampNeg), .int (xs (x3 + (2 : Int32)).toNatClampNeg), .int (xs (x3 + (1 : Int32)).toNatClampNeg), .ref x1]) rfl ?_
                          obtain ⟨g129, h⟩ := ifg_some h
                          refine E_si g129 ?_
                          obtain ⟨z130, e131, h⟩ := Option.bind_eq_some_iff.mp h
                          refine E_callI (vs := [.ref x1, .int (xs (x3 + (1 : Int32)).toNatClampNeg), .int (xs (x3 + (2 : Int32)).toNatClampNeg), .int (xs (x3 + (3 : Int32)).toNatClampNeg), .int (xs (x3 + (4 : Int32)).toNatClampNeg), .int (xs (x3 + (5 : Int32)).toNatClampNeg), .int (xs (x3 + (6 : Int32)).toNatClampNeg)]) (rest := []) rfl (by decide) rfl rfl (Nat.le_of_ble_eq_true rfl) (s134 e131) (by decide) ?_
                          refine E_ps 5 (pc' := 687) (l' := [some (.retAddr 0), some (.ref x1), some (.ref x2), some (.int x3)]) (st' := [.int (x3 + (1 : Int32)), .retAddr 0, .ref x2, .int z130.2]) rfl ?_
                          obtain ⟨g132, h⟩ := ifg_some h
                          refine E_si g132 ?_
                          refine E_ps 4 (pc' := 692) (l' := [some (.retAddr 0), some (.ref x1), some (.ref x2), some (.int x3)]) (st' := [.int (x3 + (2 : Int32)), .retAddr 0, .int (xs (x3 + (1 : Int32)).toNatClampNeg), .ref x2, .int z130.2]) rfl ?_
                          obtain ⟨g133, h⟩ := ifg_some h
                          refine E_si g133 ?_
                          refine E_ps 4 (pc' := 697) (l' := [some (.retAddr 0), some (.ref x1), some (.ref x2), some (.int x3)]) (st' := [.int (x3 + (3 : Int32)), .retAddr 0, .int (xs (x3 + (2 : Int32)).toNatClampNeg), .int (xs (x3 + (1 : Int32)).toNatClampNeg), .ref x2, .int z130.2]) rfl ?_
                          obtain ⟨g134, h⟩ := ifg_some h
                          refine E_si g134 ?_
                          refine E_ps 4 (pc' := 702) (l' := [some (.retAddr 0), some (.ref x1), some (.ref x2), some (.int x3)]) (st' := [.int (x3 + (4 : Int32)), .retAddr 0, .int (xs (x3 + (3 : Int32)).toNatClampNeg), .int (xs (x3 + (2 : Int32)).toNatClampNeg), .int (xs (x3 + (1 : Int32)).toNatClampNeg), .ref x2, .int z130.2]) rfl ?_
                          obtain ⟨g135, h⟩ := ifg_some h
                          refine E_si g135 ?_
                          refine E_ps 4 (pc' := 707) (l' := [some (.retAddr 0), some (.ref x1), some (.ref x2), some (.int x3)]) (st' := [.int (x3 + (5 : Int32)), .retAddr 0, .int (xs (x3 + (4 : Int32)).toNatClampNeg), .int (xs (x3 + (3 : Int32)).toNatClampNeg), .int (xs (x3 + (2 : Int32)).toNatClampNeg), .int (xs (x3 + (1 : Int32)).toNatClampNeg), .ref x2, .int z130.2]) rfl ?_
                          obtain ⟨g136, h⟩ := ifg_some h
                          refine E_si g136 ?_
                          refine E_ps 4 (pc' := 713) (l' := [some (.retAddr 0), some (.ref x1), some (.ref x2), some (.int x3)]) (st' := [.int (x3 + (6 : Int32)), .retAddr 0, .int (xs (x3 + (5 : Int32)).toNatClampNeg), .int (xs (x3 + (4 : Int32)).toNatClampNeg), .int (xs (x3 + (3 : Int32)).toNatClampNeg), .int (xs (x3 + (2 : Int32)).toNatClampNeg), .int (xs (x3 + (1 : Int32)).toNatClampNeg), .ref x2, .int z130.2]) rfl ?_
                          obtain ⟨g137, h⟩ := ifg_some h
                          refine E_si g137 ?_
                          obtain ⟨z138, e139, h⟩ := Option.bind_eq_some_iff.mp h
                          refine E_callI (vs := [.ref x2, .int (xs (x3 + (1 : Int32)).toNatClampNeg), .int (xs (x3 + (2 : Int32)).toNatClampNeg), .int (xs (x3 + (3 : Int32)).toNatClampNeg), .int (xs (x3 + (4 : Int32)).toNatClampNeg), .int (xs (x3 + (5 : Int32)).toNatClampNeg), .int (xs (x3 + (6 : Int32)).toNatClampNeg)]) (rest := [.int z130.2]) rfl (by decide) rfl rfl (Nat.le_of_ble_eq_true rfl) (s225 e139) (by decide) ?_
                          by_cases c140 : z130.2 = z138.2
                          · rw [if_pos c140] at h
                            refine E_jt rfl rfl c140 ?_
                            exact E_wk (l' := [some (.retAddr 0), some (.ref x1), some (.ref x2), some (.int x3)]) ⟨rfl, rfl, rfl, rfl, trivial⟩ (s0_1622 k1 k2 h hr)
                          · rw [if_neg c140] at h
                            refine E_jf rfl rfl c140 ?_
                            obtain ⟨r, h, hr⟩ := lf_some (Dn := dn0_18 L xs x1 x2 o) h hr
                            refine E_blk rfl ?_
                            refine E_ps 1 (pc' := 721) (l' := [some (.retAddr 0), some (.ref x1), some (.ref x2), some (.int x3)]) (st' := [.int (0 : Int32)]) rfl ?_
                            cases h
                            exact E_ret rfl (pg_mt_md (by decide)) rfl hr
                        · rw [if_neg c123] at h
                          by_cases c141 : ((xs x3.toNatClampNeg) &&& (63 : Int32)) = 11
                          · rw [if_pos c141] at h
                            refine E_j (pc' := 722) rfl (by rw [c141]; rfl) ?_
                            refine E_blk rfl ?_
                            refine E_ps 5 (pc' := 727) (l' := [some (.retAddr 0), some (.ref x1), some (.ref x2), some (.int x3)]) (st' := [.int (x3 + (1 : Int32)), .retAddr 0, .ref x1]) rfl ?_
                            obtain ⟨g142, h⟩ := ifg_some h
                            refine E_si g142 ?_
                            obtain ⟨z143, e144, h⟩ := Option.bind_eq_some_iff.mp h
                            refine E_callI (vs := [.ref x1, .int (xs (x3 + (1 : Int32)).toNatClampNeg)]) (rest := []) rfl (by decide) rfl rfl (Nat.le_of_ble_eq_true rfl) (s135 e144) (by decide) ?_
                            refine E_ps 5 (pc' := 736) (l' := [some (.retAddr 0), some (.ref x1), some (.ref x2), some (.int x3)]) (st' := [.int (x3 + (1 : Int32)), .retAddr 0, .ref x2, .int z143.2]) rfl ?_
                            obtain ⟨g145, h⟩ := ifg_some h
                            refine E_si g145 ?_
                            obtain ⟨z146, e147, h⟩ := Option.bind_eq_some_iff.mp h
                            refine E_callI (vs := [.ref x2, .int (xs (x3 + (1 : Int32)).toNatClampNeg)]) (rest := [.int z143.2]) rfl (by decide) rfl rfl (Nat.le_of_ble_eq_true rfl) (s230 e147) (by decide) ?_
                            by_cases c148 : z143.2 = z146.2
                            · rw [if_pos c148] at h
                              refine E_jt rfl rfl c148 ?_
                              exact E_wk (l' := [some (.retAddr 0), some (.ref x1), some (.ref x2), some (.int x3)]) ⟨rfl, rfl, rfl, rfl, trivial⟩ (s0_1622 k1 k2 h hr)
                            · rw [if_neg c148] at h
                              refine E_jf rfl rfl c148 ?_
                              obtain ⟨r, h, hr⟩ := lf_some (Dn := dn0_18 L xs x1 x2 o) h hr
                              refine E_blk rfl ?_
                              refine E_ps 1 (pc' := 744) (l' := [some (.retAddr 0), some (.ref x1), some (.ref x2), some (.int x3)]) (st' := [.int (0 : Int32)]) rfl ?_
                              cases h
                              exact E_ret rfl (pg_mt_md (by decide)) rfl hr
                          · rw [if_neg c141] at h
                            by_cases c149 : ((xs x3.toNatClampNeg) &&& (63 : Int32)) = 12
                            · rw [if_pos c149] at h
                              refine E_j (pc' := 745) rfl (by rw [c149]; rfl) ?_
                              refine E_blk rfl ?_
                              refine E_ps 5 (pc' := 750) (l' := [some (.retAddr 0), some (.ref x1), some (.ref x2), some (.int x3)]) (st' := [.int (x3 + (1 : Int32)), .retAddr 0, .ref x1]) rfl ?_
                              obtain ⟨g150, h⟩ := ifg_some h
                              refine E_si g150 ?_
                              obtain ⟨z151, e152, h⟩ := Option.bind_eq_some_iff.mp h
                              refine E_callI (vs := [.ref x1, .int (xs (x3 + (1 : Int32)).toNatClampNeg)]) (rest := []) rfl (by decide) rfl rfl (Nat.le_of_ble_eq_true rfl) (s136 e152) (by decide) ?_
                              refine E_ps 5 (pc' := 759) (l' := [some (.retAddr 0), some (.ref x1), some (.ref x2), some (.int x3)]) (st' := [.int (x3 + (1 : Int32)), .retAddr 0, .ref x2, .int z151.2]) rfl ?_
                              obtain ⟨g153, h⟩ := ifg_some h
                              refine E_si g153 ?_
                              obtain ⟨z154, e155, h⟩ := Option.bind_eq_some_iff.mp h
                              refine E_callI (vs := [.ref x2, .int (xs (x3 + (1 : Int32)).toNatClampNeg)]) (rest := [.int z151.2]) rfl (by decide) rfl rfl (Nat.le_of_ble_eq_true rfl) (s231 e155) (by decide) ?_
                              by_cases c156 : z151.2 = z154.2
                              · rw [if_pos c156] at h
                                refine E_jt rfl rfl c156 ?_
                                exact E_wk (l' := [some (.retAddr 0), some (.ref x1), some (.ref x2), some (.int x3)]) ⟨rfl, rfl, rfl, rfl, trivial⟩ (s0_1622 k1 k2 h hr)
                              · rw [if_neg c156] at h
                                refine E_jf rfl rfl c156 ?_
                                obtain ⟨r, h, hr⟩ := lf_some (Dn := dn0_18 L xs x1 x2 o) h hr
                                refine E_blk rfl ?_
                                refine E_ps 1 (pc' := 767) (l' := [some (.retAddr 0), some (.ref x1), some (.ref x2), some (.int x3)]) (st' := [.int (0 : Int32)]) rfl ?_
                                cases h
                                exact E_ret rfl (pg_mt_md (by decide)) rfl hr
                            · rw [if_neg c149] at h
                              by_cases c157 : ((xs x3.toNatClampNeg) &&& (63 : Int32)) = 13
                              · rw [if_pos c157] at h
                                refine E_j (pc' := 768) rfl (by rw [c157]; rfl) ?_
                                refine E_blk rfl ?_
                                refine E_ps 5 (pc' := 773) (l' := [some (.retAddr 0), some (.ref x1), some (.ref x2), some (.int x3)]) (st' := [.int (x3 + (1 : Int32)), .retAddr 0, .ref x1]) rfl ?_
                                obtain ⟨g158, h⟩ := ifg_some h
                                refine E_si g158 ?_
                                refine E_ps 4 (pc' := 778) (l' := [some (.retAddr 0), some (.ref x1), some (.ref x2), some (.int x3)]) (st' := [.int (x3 + (2 : Int32)), .retAddr 0, .int (xs (x3 + (1 : Int32)).toNatClampNeg), .ref x1]) rfl ?_
                                obtain ⟨g159, h⟩ := ifg_some h
                                refine E_si g159 ?_
                                obtain ⟨z160, e161, h⟩ := Option.bind_eq_some_iff.mp h
                                refine E_callI (vs := [.ref x1, .int (xs (x3 + (1 : Int32)).toNatClampNeg), .int (xs (x3 + (2 : Int32)).toNatClampNeg)]) (rest := []) rfl (by decide) rfl rfl (Nat.le_of_ble_eq_true rfl) (s137 e161) (by decide) ?_
                                refine E_ps 5 (pc' := 787) (l' := [some (.retAddr 0), some (.ref x1), some (.ref x2), some (.int x3)]) (st' := [.int (x3 + (1 : Int32)), .retAddr 0, .ref x2, .int z160.2]) rfl ?_
                                obtain ⟨g162, h⟩ := ifg_some h
                                refine E_si g162 ?_
                                refine E_ps 4 (pc' := 792) (l' := [some (.retAddr 0), some (.ref x1), some (.ref x2), some (.int x3)]) (st' := [.int (x3 + (2 : Int32)), .retAddr 0, .int (xs (x3 + (1 : Int32)).toNatClampNeg), .ref x2, .int z160.2]) rfl ?_
                                obtain ⟨g163, h⟩ := ifg_some h
                                refine E_si g163 ?_
                                obtain ⟨z164, e165, h⟩ := Option.bind_eq_some_iff.mp h
                                refine E_callI (vs := [.ref x2, .int (xs (x3 + (1 : Int32)).toNatClampNeg), .int (xs (x3 + (2 : Int32)).toNatClampNeg)]) (rest := [.int z160.2]) rfl (by decide) rfl rfl (Nat.le_of_ble_eq_true rfl) (s233 e165) (by decide) ?_
                                by_cases c166 : z160.2 = z164.2
                                · rw [if_pos c166] at h
                                  refine E_jt rfl rfl c166 ?_
                                  exact E_wk (l' := [some (.retAddr 0), some (.ref x1), some (.ref x2), some (.int x3)]) ⟨rfl, rfl, rfl, rfl, trivial⟩ (s0_1622 k1 k2 h hr)
                                · rw [if_neg c166] at h
                                  refine E_jf rfl rfl c166 ?_
                                  obtain ⟨r, h, hr⟩ := lf_some (Dn := dn0_18 L xs x1 x2 o) h hr
                                  refine E_blk rfl ?_
                                  refine E_ps 1 (pc' := 800) (l' := [some (.retAddr 0), some (.ref x1), some (.ref x2), some (.int x3)]) (st' := [.int (0 : Int32)]) rfl ?_
                                  cases h
                                  exact E_ret rfl (pg_mt_md (by decide)) rfl hr
                              · rw [if_neg c157] at h
                                by_cases c167 : ((xs x3.toNatClampNeg) &&& (63 : Int32)) = 14
                                · rw [if_pos c167] at h
                                  refine E_j (pc' := 801) rfl (by rw [c167]; rfl) ?_
                                  refine E_blk rfl ?_
                                  refine E_ps 5 (pc' := 806) (l' := [some (.retAddr 0), some (.ref x1), some (.ref x2), some (.int x3)]) (st' := [.int (x3 + (1 : Int32)), .retAddr 0, .ref x1]) rfl ?_
                                  obtain ⟨g168, h⟩ := ifg_some h
                                  refine E_si g168 ?_
                                  obtain ⟨z169, e170, h⟩ := Option.bind_eq_some_iff.mp h
                                  refine E_callI (vs := [.ref x1, .int (xs (x3 + (1 : Int32)).toNatClampNeg)]) (rest := []) rfl (by decide) rfl rfl (Nat.le_of_ble_eq_true rfl) (s138 e170) (by decide) ?_
                                  refine E_ps 5 (pc' := 815) (l' := [some (.retAddr 0), some (.ref x1), some (.ref x2), some (.int x3)]) (st' := [.int (x3 + (1 : Int32)), .retAddr 0, .ref x2, .int z169.2]) rfl ?_
                                  obtain ⟨g171, h⟩ := ifg_some h
                                  refine E_si g171 ?_
                                  obtain ⟨z172, e173, h⟩ := Option.bind_eq_some_iff.mp h
                                  refine E_callI (vs := [.ref x2, .int (xs (x3 + (1 : Int32)).toNatClampNeg)]) (rest := [.int z169.2]) rfl (by decide) rfl rfl (Nat.le_of_ble_eq_true rfl) (s235 e173) (by decide) ?_
                                  by_cases c174 : z169.2 = z172.2
                                  · rw [if_pos c174] at h
                                    refine E_jt rfl rfl c174 ?_
                                    exact E_wk (l' := [some (.retAddr 0), some (.ref x1), some (.ref x2), some (.int x3)]) ⟨rfl, rfl, rfl, rfl, trivial⟩ (s0_1622 k1 k2 h hr)
                                  · rw [if_neg c174] at h
                                    refine E_jf rfl rfl c174 ?_
                                    obtain ⟨r, h, hr⟩ := lf_some (Dn := dn0_18 L xs x1 x2 o) h hr
                                    refine E_blk rfl ?_
                                    refine E_ps 1 (pc' := 823) (l' := [some (.retAddr 0), some (.ref x1), some (.ref x2), some (.int x3)]) (st' := [.int (0 : Int32)]) rfl ?_
                                    cases h
                                    exact E_ret rfl (pg_mt_md (by decide)) rfl hr
                                · rw [if_neg c167] at h
                                  by_cases c175 : ((xs x3.toNatClampNeg) &&& (63 : Int32)) = 15
                                  · rw [if_pos c175] at h
                                    refine E_j (pc' := 824) rfl (by rw [c175]; rfl) ?_
                                    refine E_blk rfl ?_
                                    refine E_ps 5 (pc' := 829) (l' := [some (.retAddr 0), some (.ref x1), some (.ref x2), some (.int x3)]) (st' := [.int (x3 + (1 : Int32)), .retAddr 0, .ref x1]) rfl ?_
                                    obtain ⟨g176, h⟩ := ifg_some h
                                    refine E_si g176 ?_
                                    refine E_ps 4 (pc' := 834) (l' := [some (.retAddr 0), some (.ref x1), some (.ref x2), some (.int x3)]) (st' := [.int (x3 + (2 : Int32)), .retAddr 0, .int (xs (x3 + (1 : Int32)).toNatClampNeg), .ref x1]) rfl ?_
                                    obtain ⟨g177, h⟩ := ifg_some h
                                    refine E_si g177 ?_
                                    refine E_ps 4 (pc' := 839) (l' := [some (.retAddr 0), some (.ref x1), some (.ref x2), some (.int x3)]) (st' := [.int (x3 + (3 : Int32)), .retAddr 0, .int (xs (x3 + (2 : Int32)).toNatClampNeg), .int (xs (x3 + (1 : Int32)).toNatClampNeg), .ref x1]) rfl ?_
                                    obtain ⟨g178, h⟩ := ifg_some h
                                    refine E_si g178 ?_
                                    obtain ⟨z179, e180, h⟩ := Option.bind_eq_some_iff.mp h
                                    refine E_callI (vs := [.ref x1, .int (xs (x3 + (1 : Int32)).toNatClampNeg), .int (xs (x3 + (2 : Int32)).toNatClampNeg), .int (xs (x3 + (3 : Int32)).toNatClampNeg)]) (rest := []) rfl (by decide) rfl rfl (Nat.le_of_ble_eq_true rfl) (s139 e180) (by decide) ?_
                                    refine E_ps 5 (pc' := 848) (l' := [some (.retAddr 0), some (.ref x1), some (.ref x2), some (.int x3)]) (st' := [.int (x3 + (1 : Int32)), .retAddr 0, .ref x2, .int z179.2]) rfl ?_
                                    obtain ⟨g181, h⟩ := ifg_some h
                                    refine E_si g181 ?_
                                    refine E_ps 4 (pc' := 853) (l' := [some (.retAddr 0), some (.ref x1), some (.ref x2), some (.int x3)]) (st' := [.int (x3 + (2 : Int32)), .retAddr 0, .int (xs (x3 + (1 : Int32)).toNatClampNeg), .ref x2, .int z179.2]) rfl ?_
                                    obtain ⟨g182, h⟩ := ifg_some h
                                    refine E_si g182 ?_
                                    refine E_ps 4 (pc' := 858) (l' := [some (.retAddr 0), some (.ref x1), some (.ref x2), some (.int x3)]) (st' := [.int (x3 + (3 : Int32)), .retAddr 0, .int (xs (x3 + (2 : Int32)).toNatClampNeg), .int (xs (x3 + (1 : Int32)).toNatClampNeg), .ref x2, .int z179.2]) rfl ?_
                                    obtain ⟨g183, h⟩ := ifg_some h
                                    refine E_si g183 ?_
                                    obtain ⟨z184, e185, h⟩ := Option.bind_eq_some_iff.mp h
                                    refine E_callI (vs := [.ref x2, .int (xs (x3 + (1 : Int32)).toNatClampNeg), .int (xs (x3 + (2 : Int32)).toNatClampNeg), .int (xs (x3 + (3 : Int32)).toNatClampNeg)]) (rest := [.int z179.2]) rfl (by decide) rfl rfl (Nat.le_of_ble_eq_true rfl) (s237 e185) (by decide) ?_
                                    by_cases c186 : z179.2 = z184.2
                                    · rw [if_pos c186] at h
                                      refine E_jt rfl rfl c186 ?_
                                      exact E_wk (l' := [some (.retAddr 0), some (.ref x1), some (.ref x2), some (.int x3)]) ⟨rfl, rfl, rfl, rfl, trivial⟩ (s0_1622 k1 k2 h hr)
                                    · rw [if_neg c186] at h
                                      refine E_jf rfl rfl c186 ?_
                                      obtain ⟨r, h, hr⟩ := lf_some (Dn := dn0_18 L xs x1 x2 o) h hr
                                      refine E_blk rfl ?_
                                      refine E_ps 1 (pc' := 866) (l' := [some (.retAddr 0), some (.ref x1), some (.ref x2), some (.int x3)]) (st' := [.int (0 : Int32)]) rfl ?_
                                      cases h
                                      exact E_ret rfl (pg_mt_md (by decide)) rfl hr
                                  · rw [if_neg c175] at h
                                    by_cases c187 : ((xs x3.toNatClampNeg) &&& (63 : Int32)) = 16
                                    · rw [if_pos c187] at h
                                      refine E_j (pc' := 867) rfl (by rw [c187]; rfl) ?_
                                      refine E_blk rfl ?_
                                      refine E_ps 5 (pc' := 872) (l' := [some (.retAddr 0), some (.ref x1), some (.ref x2), some (.int x3)]) (st' := [.int (x3 + (1 : Int32)), .retAddr 0, .ref x1]) rfl ?_
                                      obtain ⟨g188, h⟩ := ifg_some h
                                      refine E_si g188 ?_
                                      obtain ⟨z189, e190, h⟩ := Option.bind_eq_some_iff.mp h
                                      refine E_callI (vs := [.ref x1, .int (xs (x3 + (1 : Int32)).toNatClampNeg)]) (rest := []) rfl (by decide) rfl rfl (Nat.le_of_ble_eq_true rfl) (s140 e190) (by decide) ?_
                                      refine E_ps 5 (pc' := 881) (l' := [some (.retAddr 0), some (.ref x1), some (.ref x2), some (.int x3)]) (st' := [.int (x3 + (1 : Int32)), .retAddr 0, .ref x2, .int z189.2]) rfl ?_
                                      obtain ⟨g191, h⟩ := ifg_some h
                                      refine E_si g191 ?_
                                      obtain ⟨z192, e193, h⟩ := Option.bind_eq_some_iff.mp h
                                      refine E_callI (vs := [.ref x2, .int (xs (x3 + (1 : Int32)).toNatClampNeg)]) (rest := [.int z189.2]) rfl (by decide) rfl rfl (Nat.le_of_ble_eq_true rfl) (s238 e193) (by decide) ?_
                                      by_cases c194 : z189.2 = z192.2
                                      · rw [if_pos c194] at h
                                        refine E_jt rfl rfl c194 ?_
                                        exact E_wk (l' := [some (.retAddr 0), some (.ref x1), some (.ref x2), some (.int x3)]) ⟨rfl, rfl, rfl, rfl, trivial⟩ (s0_1622 k1 k2 h hr)
                                      · rw [if_neg c194] at h
                                        refine E_jf rfl rfl c194 ?_
                                        obtain ⟨r, h, hr⟩ := lf_some (Dn := dn0_18 L xs x1 x2 o) h hr
                                        refine E_blk rfl ?_
                                        refine E_ps 1 (pc' := 889) (l' := [some (.retAddr 0), some (.ref x1), some (.ref x2), some (.int x3)]) (st' := [.int (0 : Int32)]) rfl ?_
                                        cases h
                                        exact E_ret rfl (pg_mt_md (by decide)) rfl hr
                                    · rw [if_neg c187] at h
                                      by_cases c195 : ((xs x3.toNatClampNeg) &&& (63 : Int32)) = 17
                                      · rw [if_pos c195] at h
                                        refine E_j (pc' := 890) rfl (by rw [c195]; rfl) ?_
                                        refine E_blk rfl ?_
                                        refine E_ps 1 (pc' := 891) (l' := [some (.retAddr 0), some (.ref x1), some (.ref x2), some (.int x3)]) (st' := [.ref x1]) rfl ?_
                                        obtain ⟨z196, e197, h⟩ := Option.bind_eq_some_iff.mp h
                                        refine E_callI (vs := [.ref x1]) (rest := []) rfl (by decide) rfl rfl (Nat.le_of_ble_eq_true rfl) (s141 e197) (by decide) ?_
                                        refine E_ps 1 (pc' := 895) (l' := [some (.retAddr 0), some (.ref x1), some (.ref x2), some (.int x3)]) (st' := [.ref x2, .int z196.2]) rfl ?_
                                        obtain ⟨z198, e199, h⟩ := Option.bind_eq_some_iff.mp h
                                        refine E_callI (vs := [.ref x2]) (rest := [.int z196.2]) rfl (by decide) rfl rfl (Nat.le_of_ble_eq_true rfl) (s243 e199) (by decide) ?_
                                        by_cases c200 : z196.2 = z198.2
                                        · rw [if_pos c200] at h
                                          refine E_jt rfl rfl c200 ?_
                                          exact E_wk (l' := [some (.retAddr 0), some (.ref x1), some (.ref x2), some (.int x3)]) ⟨rfl, rfl, rfl, rfl, trivial⟩ (s0_1622 k1 k2 h hr)
                                        · rw [if_neg c200] at h
                                          refine E_jf rfl rfl c200 ?_
                                          obtain ⟨r, h, hr⟩ := lf_some (Dn := dn0_18 L xs x1 x2 o) h hr
                                          refine E_blk rfl ?_
                                          refine E_ps 1 (pc' := 902) (l' := [some (.retAddr 0), some (.ref x1), some (.ref x2), some (.int x3)]) (st' := [.int (0 : Int32)]) rfl ?_
                                          cases h
                                          exact E_ret rfl (pg_mt_md (by decide)) rfl hr
                                      · rw [if_neg c195] at h
                                        by_cases c201 : ((xs x3.toNatClampNeg) &&& (63 : Int32)) = 18
                                        · rw [if_pos c201] at h
                                          refine E_j (pc' := 903) rfl (by rw [c201]; rfl) ?_
                                          refine E_blk rfl ?_
                                          refine E_ps 1 (pc' := 904) (l' := [some (.retAddr 0), some (.ref x1), some (.ref x2), some (.int x3)]) (st' := [.ref x1]) rfl ?_
                                          obtain ⟨z202, e203, h⟩ := Option.bind_eq_some_iff.mp h
                                          refine E_callI (vs := [.ref x1]) (rest := []) rfl (by decide) rfl rfl (Nat.le_of_ble_eq_true rfl) (s142 e203) (by decide) ?_
                                          refine E_ps 1 (pc' := 908) (l' := [some (.retAddr 0), some (.ref x1), some (.ref x2), some (.int x3)]) (st' := [.ref x2, .int z202.2]) rfl ?_
                                          obtain ⟨z204, e205, h⟩ := Option.bind_eq_some_iff.mp h
                                          refine E_callI (vs := [.ref x2]) (rest := [.int z202.2]) rfl (by decide) rfl rfl (Nat.le_of_ble_eq_true rfl) (s244 e205) (by decide) ?_
                                          by_cases c206 : z202.2 = z204.2
                                          · rw [if_pos c206] at h
                                            refine E_jt rfl rfl c206 ?_
                                            exact E_wk (l' := [some (.retAddr 0), some (.ref x1), some (.ref x2), some (.int x3)]) ⟨rfl, rfl, rfl, rfl, trivial⟩ (s0_1622 k1 k2 h hr)
                                          · rw [if_neg c206] at h
                                            refine E_jf rfl rfl c206 ?_
                                            obtain ⟨r, h, hr⟩ := lf_some (Dn := dn0_18 L xs x1 x2 o) h hr
                                            refine E_blk rfl ?_
                                            refine E_ps 1 (pc' := 915) (l' := [some (.retAddr 0), some (.ref x1), some (.ref x2), some (.int x3)]) (st' := [.int (0 : Int32)]) rfl ?_
                                            cases h
                                            exact E_ret rfl (pg_mt_md (by decide)) rfl hr
                                        · rw [if_neg c201] at h
                                          by_cases c207 : ((xs x3.toNatClampNeg) &&& (63 : Int32)) = 19
                                          · rw [if_pos c207] at h
                                            refine E_j (pc' := 916) rfl (by rw [c207]; rfl) ?_
                                            refine E_blk rfl ?_
                                            refine E_ps 5 (pc' := 921) (l' := [some (.retAddr 0), some (.ref x1), some (.ref x2), some (.int x3)]) (st' := [.int (x3 + (1 : Int32)), .retAddr 0, .ref x1]) rfl ?_
                                            obtain ⟨g208, h⟩ := ifg_some h
                                            refine E_si g208 ?_
                                            obtain ⟨z209, e210, h⟩ := Option.bind_eq_some_iff.mp h
                                            refine E_callI (vs := [.ref x1, .int (xs (x3 + (1 : Int32)).toNatClampNeg)]) (rest := []) rfl (by decide) rfl rfl (Nat.le_of_ble_eq_true rfl) (s143 e210) (by decide) ?_
                                            refine E_ps 5 (pc' := 930) (l' := [some (.retAddr 0), some (.ref x1), some (.ref x2), some (.int x3)]) (st' := [.int (x3 + (1 : Int32)), .retAddr 0, .ref x2, .int z209.2]) rfl ?_
                                            obtain ⟨g211, h⟩ := ifg_some h
                                            refine E_si g211 ?_
                                            obtain ⟨z212, e213, h⟩ := Option.bind_eq_some_iff.mp h
                                            refine E_callI (vs := [.ref x2, .int (xs (x3 + (1 : Int32)).toNatClampNeg)]) (rest := [.int z209.2]) rfl (by decide) rfl rfl (Nat.le_of_ble_eq_true rfl) (s247 e213) (by decide) ?_
                                            by_cases c214 : z209.2 = z212.2
                                            · rw [if_pos c214] at h
                                              refine E_jt rfl rfl c214 ?_
                                              exact E_wk (l' := [some (.retAddr 0), some (.ref x1), some (.ref x2), some (.int x3)]) ⟨rfl, rfl, rfl, rfl, trivial⟩ (s0_1622 k1 k2 h hr)
                                            · rw [if_neg c214] at h
                                              refine E_jf rfl rfl c214 ?_
                                              obtain ⟨r, h, hr⟩ := lf_some (Dn := dn0_18 L xs x1 x2 o) h hr
                                              refine E_blk rfl ?_
                                              refine E_ps 1 (pc' := 938) (l' := [some (.retAddr 0), some (.ref x1), some (.ref x2), some (.int x3)]) (st' := [.int (0 : Int32)]) rfl ?_
                                              cases h
                                              exact E_ret rfl (pg_mt_md (by decide)) rfl hr
                                          · rw [if_neg c207] at h
                                            by_cases c215 : ((xs x3.toNatClampNeg) &&& (63 : Int32)) = 20
                                            · rw [if_pos c215] at h
                                              refine E_j (pc' := 939) rfl (by rw [c215]; rfl) ?_
                                              refine E_blk rfl ?_
                                              refine E_ps 5 (pc' := 944) (l' := [some (.retAddr 0), some (.ref x1), some (.ref x2), some (.int x3)]) (st' := [.int (x3 + (1 : Int32)), .retAddr 0, .ref x1]) rfl ?_
                                              obtain ⟨g216, h⟩ := ifg_some h
                                              refine E_si g216 ?_
                                              refine E_ps 4 (pc' := 949) (l' := [some (.retAddr 0), some (.ref x1), some (.ref x2), some (.int x3)]) (st' := [.int (x3 + (2 : Int32)), .retAddr 0, .int (xs (x3 + (1 : Int32)).toNatClampNeg), .ref x1]) rfl ?_
                                              obtain ⟨g217, h⟩ := ifg_some h
                                              refine E_si g217 ?_
                                              obtain ⟨z218, e219, h⟩ := Option.bind_eq_some_iff.mp h
                                              refine E_callI (vs := [.ref x1, .int (xs (x3 + (1 : Int32)).toNatClampNeg), .int (xs (x3 + (2 : Int32)).toNatClampNeg)]) (rest := []) rfl (by decide) rfl rfl (Nat.le_of_ble_eq_true rfl) (s144 e219) (by decide) ?_
                                              refine E_ps 5 (pc' := 958) (l' := [some (.retAddr 0), some (.ref x1), some (.ref x2), some (.int x3)]) (st' := [.int (x3 + (1 : Int32)), .retAddr 0, .ref x2, .int z218.2]) rfl ?_
                                              obtain ⟨g220, h⟩ := ifg_some h
                                              refine E_si g220 ?_
                                              refine E_ps 4 (pc' := 963) (l' := [some (.retAddr 0), some (.ref x1), some (.ref x2), some (.int x3)]) (st' := [.int (x3 + (2 : Int32)), .retAddr 0, .int (xs (x3 + (1 : Int32)).toNatClampNeg), .ref x2, .int z218.2]) rfl ?_
                                              obtain ⟨g221, h⟩ := ifg_some h
                                              refine E_si g221 ?_
                                              obtain ⟨z222, e223, h⟩ := Option.bind_eq_some_iff.mp h
                                              refine E_callI (vs := [.ref x2, .int (xs (x3 + (1 : Int32)).toNatClampNeg), .int (xs (x3 + (2 : Int32)).toNatClampNeg)]) (rest := [.int z218.2]) rfl (by decide) rfl rfl (Nat.le_of_ble_eq_true rfl) (s254 e223) (by decide) ?_
                                              by_cases c224 : z218.2 = z222.2
                                              · rw [if_pos c224] at h
                                                refine E_jt rfl rfl c224 ?_
                                                exact E_wk (l' := [some (.retAddr 0), some (.ref x1), some (.ref x2), some (.int x3)]) ⟨rfl, rfl, rfl, rfl, trivial⟩ (s0_1622 k1 k2 h hr)
                                              · rw [if_neg c224] at h
                                                refine E_jf rfl rfl c224 ?_
                                                obtain ⟨r, h, hr⟩ := lf_some (Dn := dn0_18 L xs x1 x2 o) h hr
                                                refine E_blk rfl ?_
                                                refine E_ps 1 (pc' := 971) (l' := [some (.retAddr 0), some (.ref x1), some (.ref x2), some (.int x3)]) (st' := [.int (0 : Int32)]) rfl ?_
                                                cases h
                                                exact E_ret rfl (pg_mt_md (by decide)) rfl hr
                                            · rw [if_neg c215] at h
                                              by_cases c225 : ((xs x3.toNatClampNeg) &&& (63 : Int32)) = 21
                                              · rw [if_pos c225] at h
                                                refine E_j (pc' := 972) rfl (by rw [c225]; rfl) ?_
                                                refine E_blk rfl ?_
                                                refine E_ps 5 (pc' := 977) (l' := [some (.retAddr 0), some (.ref x1), some (.ref x2), some (.int x3)]) (st' := [.int (x3 + (1 : Int32)), .retAddr 0, .ref x1]) rfl ?_
                                                obtain ⟨g226, h⟩ := ifg_some h
                                                refine E_si g226 ?_
                                                refine E_ps 4 (pc' := 982) (l' := [some (.retAddr 0), some (.ref x1), some (.ref x2), some (.int x3)]) (st' := [.int (x3 + (2 : Int32)), .retAddr 0, .int (xs (x3 + (1 : Int32)).toNatClampNeg), .ref x1]) rfl ?_
                                                obtain ⟨g227, h⟩ := ifg_some h
                                                refine E_si g227 ?_
                                                refine E_ps 4 (pc' := 987) (l' := [some (.retAddr 0), some (.ref x1), some (.ref x2), some (.int x3)]) (st' := [.int (x3 + (3 : Int32)), .retAddr 0, .int (xs (x3 + (2 : Int32)).toNatClampNeg), .int (xs (x3 + (1 : Int32)).toNatClampNeg), .ref x1]) rfl ?_
                                                obtain ⟨g228, h⟩ := ifg_some h
                                                refine E_si g228 ?_
                                                obtain ⟨z229, e230, h⟩ := Option.bind_eq_some_iff.mp h
                                                refine E_callI (vs := [.ref x1, .int (xs (x3 + (1 : Int32)).toNatClampNeg), .int (xs (x3 + (2 : Int32)).toNatClampNeg), .int (xs (x3 + (3 : Int32)).toNatClampNeg)]) (rest := []) rfl (by decide) rfl rfl (Nat.le_of_ble_eq_true rfl) (s145 e230) (by decide) ?_
                                                refine E_ps 5 (pc' := 996) (l' := [some (.retAddr 0), some (.ref x1), some (.ref x2), some (.int x3)]) (st' := [.int (x3 + (1 : Int32)), .retAddr 0, .ref x2, .int z229.2]) rfl ?_
                                                obtain ⟨g231, h⟩ := ifg_some h
                                                refine E_si g231 ?_
                                                refine E_ps 4 (pc' := 1001) (l' := [some (.retAddr 0), some (.ref x1), some (.ref x2), some (.int x3)]) (st' := [.int (x3 + (2 : Int32)), .retAddr 0, .int (xs (x3 + (1 : Int32)).toNatClampNeg), .ref x2, .int z229.2]) rfl ?_
                                                obtain ⟨g232, h⟩ := ifg_some h
                                                refine E_si g232 ?_
                                                refine E_ps 4 (pc' := 1006) (l' := [some (.retAddr 0), some (.ref x1), some (.ref x2), some (.int x3)]) (st' := [.int (x3 + (3 : Int32)), .retAddr 0, .int (xs (x3 + (2 : Int32)).toNatClampNeg), .int (xs (x3 + (1 : Int32)).toNatClampNeg), .ref x2, .int z229.2]) rfl ?_
                                                obtain ⟨g233, h⟩ := ifg_some h
                                                refine E_si g233 ?_
                                                obtain ⟨z234, e235, h⟩ := Option.bind_eq_some_iff.mp h
                                                refine E_callI (vs := [.ref x2, .int (xs (x3 + (1 : Int32)).toNatClampNeg), .int (xs (x3 + (2 : Int32)).toNatClampNeg), .int (xs (x3 + (3 : Int32)).toNatClampNeg)]) (rest := [.int z229.2]) rfl (by decide) rfl rfl (Nat.le_of_ble_eq_true rfl) (s255 e235) (by decide) ?_
                                                by_cases c236 : z229.2 = z234.2
                                                · rw [if_pos c236] at h
                                                  refine E_jt rfl rfl c236 ?_
                                                  exact E_wk (l' := [some (.retAddr 0), some (.ref x1), some (.ref x2), some (.int x3)]) ⟨rfl, rfl, rfl, rfl, trivial⟩ (s0_1622 k1 k2 h hr)
                                                · rw [if_neg c236] at h
                                                  refine E_jf rfl rfl c236 ?_
                                                  obtain ⟨r, h, hr⟩ := lf_some (Dn := dn0_18 L xs x1 x2 o) h hr
                                                  refine E_blk rfl ?_
                                                  refine E_ps 1 (pc' := 1014) (l' := [some (.retAddr 0), some (.ref x1), some (.ref x2), some (.int x3)]) (st' := [.int (0 : Int32)]) rfl ?_
                                                  cases h
                                                  exact E_ret rfl (pg_mt_md (by decide)) rfl hr
                                              · rw [if_neg c225] at h
                                                by_cases c237 : ((xs x3.toNatClampNeg) &&& (63 : Int32)) = 22
                                                · rw [if_pos c237] at h
                                                  refine E_j (pc' := 1015) rfl (by rw [c237]; rfl) ?_
                                                  refine E_blk rfl ?_
                                                  refine E_ps 5 (pc' := 1020) (l' := [some (.retAddr 0), some (.ref x1), some (.ref x2), some (.int x3)]) (st' := [.int (x3 + (1 : Int32)), .retAddr 0, .ref x1]) rfl ?_
                                                  obtain ⟨g238, h⟩ := ifg_some h
                                                  refine E_si g238 ?_
                                                  refine E_ps 4 (pc' := 1025) (l' := [some (.retAddr 0), some (.ref x1), some (.ref x2), some (.int x3)]) (st' := [.int (x3 + (2 : Int32)), .retAddr 0, .int (xs (x3 + (1 : Int32)).toNatClampNeg), .ref x1]) rfl ?_
                                                  obtain ⟨g239, h⟩ := ifg_some h
                                                  refine E_si g239 ?_
                                                  obtain ⟨z240, e241, h⟩ := Option.bind_eq_some_iff.mp h
                                                  refine E_callL (vs := [.ref x1, .int (xs (x3 + (1 : Int32)).toNatClampNeg), .int (xs (x3 + (2 : Int32)).toNatClampNeg)]) (rest := []) rfl (by decide) rfl rfl (Nat.le_of_ble_eq_true rfl) (s146 e241) (by decide) ?_
                                                  refine E_ps 5 (pc' := 1034) (l' := [some (.retAddr 0), some (.ref x1), some (.ref x2), some (.int x3)]) (st' := [.int (x3 + (1 : Int32)), .retAddr 0, .ref x2, .long z240.2]) rfl ?_
                                                  obtain ⟨g242, h⟩ := ifg_some h
                                                  refine E_si g242 ?_
                                                  refine E_ps 4 (pc' := 1039) (l' := [some (.retAddr 0), some (.ref x1), some (.ref x2), some (.int x3)]) (st' := [.int (x3 + (2 : Int32)), .retAddr 0, .int (xs (x3 + (1 : Int32)).toNatClampNeg), .ref x2, .long z240.2]) rfl ?_
                                                  obtain ⟨g243, h⟩ := ifg_some h
                                                  refine E_si g243 ?_
                                                  obtain ⟨z244, e245, h⟩ := Option.bind_eq_some_iff.mp h
                                                  refine E_callL (vs := [.ref x2, .int (xs (x3 + (1 : Int32)).toNatClampNeg), .int (xs (x3 + (2 : Int32)).toNatClampNeg)]) (rest := [.long z240.2]) rfl (by decide) rfl rfl (Nat.le_of_ble_eq_true rfl) (s256 e245) (by decide) ?_
                                                  refine E_ps 1 (pc' := 1044) (l' := [some (.retAddr 0), some (.ref x1), some (.ref x2), some (.int x3)]) (st' := [.int (lg_cmp z240.2 z244.2)]) rfl ?_
                                                  by_cases c246 : (lg_cmp z240.2 z244.2) = 0
                                                  · rw [if_pos c246] at h
                                                    refine E_jt rfl rfl c246 ?_
                                                    exact E_wk (l' := [some (.retAddr 0), some (.ref x1), some (.ref x2), some (.int x3)]) ⟨rfl, rfl, rfl, rfl, trivial⟩ (s0_1622 k1 k2 h hr)
                                                  · rw [if_neg c246] at h
                                                    refine E_jf rfl rfl c246 ?_
                                                    obtain ⟨r, h, hr⟩ := lf_some (Dn := dn0_18 L xs x1 x2 o) h hr
                                                    refine E_blk rfl ?_
                                                    refine E_ps 1 (pc' := 1048) (l' := [some (.retAddr 0), some (.ref x1), some (.ref x2), some (.int x3)]) (st' := [.int (0 : Int32)]) rfl ?_
                                                    cases h
                                                    exact E_ret rfl (pg_mt_md (by decide)) rfl hr
                                                · rw [if_neg c237] at h
                                                  by_cases c247 : ((xs x3.toNatClampNeg) &&& (63 : Int32)) = 23
                                                  · rw [if_pos c247] at h
                                                    refine E_j (pc' := 1049) rfl (by rw [c247]; rfl) ?_
                                                    refine E_blk rfl ?_
                                                    refine E_ps 5 (pc' := 1054) (l' := [some (.retAddr 0), some (.ref x1), some (.ref x2), some (.int x3)]) (st' := [.int (x3 + (1 : Int32)), .retAddr 0, .ref x1]) rfl ?_
                                                    obtain ⟨g248, h⟩ := ifg_some h
                                                    refine E_si g248 ?_
                                                    refine E_ps 4 (pc' := 1059) (l' := [some (.retAddr 0), some (.ref x1), some (.ref x2), some (.int x3)]) (st' := [.int (x3 + (2 : Int32)), .retAddr 0, .int (xs (x3 + (1 : Int32)).toNatClampNeg), .ref x1]) rfl ?_
                                                    obtain ⟨g249, h⟩ := ifg_some h
                                                    refine E_si g249 ?_
                                                    by_cases c250 : (xs (x3 + (2 : Int32)).toNatClampNeg) = 0
                                                    · rw [if_pos c250] at h
                                                      refine E_jt rfl rfl c250 ?_
                                                      refine E_blk rfl ?_
                                                      refine E_ps 1 (pc' := 1068) (l' := [some (.retAddr 0), some (.ref x1), some (.ref x2), some (.int x3)]) (st' := [.int (0 : Int32), .int (xs (x3 + (1 : Int32)).toNatClampNeg), .ref x1]) rfl ?_
                                                      exact E_wk (l' := [some (.retAddr 0), some (.ref x1), some (.ref x2), some (.int x3)]) ⟨rfl, rfl, rfl, rfl, trivial⟩ (s0_1068 k1 k2 k1 h hr)
                                                    · rw [if_neg c250] at h
                                                      refine E_jf rfl rfl c250 ?_
                                                      refine E_blk rfl ?_
                                                      refine E_ps 1 (pc' := 1064) (l' := [some (.retAddr 0), some (.ref x1), some (.ref x2), some (.int x3)]) (st' := [.int (1 : Int32), .int (xs (x3 + (1 : Int32)).toNatClampNeg), .ref x1]) rfl ?_
                                                      refine E_j rfl rfl ?_
                                                      exact E_wk (l' := [some (.retAddr 0), some (.ref x1), some (.ref x2), some (.int x3)]) ⟨rfl, rfl, rfl, rfl, trivial⟩ (s0_1068 k1 k2 k1 h hr)
                                                  · rw [if_neg c247] at h
                                                    by_cases c251 : ((xs x3.toNatClampNeg) &&& (63 : Int32)) = 24
                                                    · rw [if_pos c251] at h
                                                      refine E_j (pc' := 1118) rfl (by rw [c251]; rfl) ?_
                                                      refine E_blk rfl ?_
                                                      refine E_ps 5 (pc' := 1123) (l' := [some (.retAddr 0), some (.ref x1), some (.ref x2), some (.int x3)]) (st' := [.int (x3 + (1 : Int32)), .retAddr 0, .ref x1]) rfl ?_
                                                      obtain ⟨g252, h⟩ := ifg_some h
                                                      refine E_si g252 ?_
                                                      refine E_ps 4 (pc' := 1128) (l' := [some (.retAddr 0), some (.ref x1), some (.ref x2), some (.int x3)]) (st' := [.int (x3 + (2 : Int32)), .retAddr 0, .int (xs (x3 + (1 : Int32)).toNatClampNeg), .ref x1]) rfl ?_
                                                      obtain ⟨g253, h⟩ := ifg_some h
                                                      refine E_si g253 ?_
                                                      refine E_ps 4 (pc' := 1133) (l' := [some (.retAddr 0), some (.ref x1), some (.ref x2), some (.int x3)]) (st' := [.int (x3 + (3 : Int32)), .retAddr 0, .int (xs (x3 + (2 : Int32)).toNatClampNeg), .int (xs (x3 + (1 : Int32)).toNatClampNeg), .ref x1]) rfl ?_
                                                      obtain ⟨g254, h⟩ := ifg_some h
                                                      refine E_si g254 ?_
                                                      refine E_ps 4 (pc' := 1138) (l' := [some (.retAddr 0), some (.ref x1), some (.ref x2), some (.int x3)]) (st' := [.int (x3 + (4 : Int32)), .retAddr 0, .int (xs (x3 + (3 : Int32)).toNatClampNeg), .int (xs (x3 + (2 : Int32)).toNatClampNeg), .int (xs (x3 + (1 : Int32)).toNatClampNeg), .ref x1]) rfl ?_
                                                      obtain ⟨g255, h⟩ := ifg_some h
                                                      refine E_si g255 ?_
                                                      refine E_ps 4 (pc' := 1143) (l' := [some (.retAddr 0), some (.ref x1), some (.ref x2), some (.int x3)]) (st' := [.int (x3 + (5 : Int32)), .retAddr 0, .int (xs (x3 + (4 : Int32)).toNatClampNeg), .int (xs (x3 + (3 : Int32)).toNatClampNeg), .int (xs (x3 + (2 : Int32)).toNatClampNeg), .int (xs (x3 + (1 : Int32)).toNatClampNeg), .ref x1]) rfl ?_
                                                      obtain ⟨g256, h⟩ := ifg_some h
                                                      refine E_si g256 ?_
                                                      obtain ⟨z257, e258, h⟩ := Option.bind_eq_some_iff.mp h
                                                      refine E_callI (vs := [.ref x1, .int (xs (x3 + (1 : Int32)).toNatClampNeg), .int (xs (x3 + (2 : Int32)).toNatClampNeg), .int (xs (x3 + (3 : Int32)).toNatClampNeg), .int (xs (x3 + (4 : Int32)).toNatClampNeg), .int (xs (x3 + (5 : Int32)).toNatClampNeg)]) (rest := []) rfl (by decide) rfl rfl (Nat.le_of_ble_eq_true rfl) (s148 e258) (by decide) ?_
                                                      refine E_ps 5 (pc' := 1152) (l' := [some (.retAddr 0), some (.ref x1), some (.ref x2), some (.int x3)]) (st' := [.int (x3 + (1 : Int32)), .retAddr 0, .ref x2, .int z257.2]) rfl ?_
                                                      obtain ⟨g259, h⟩ := ifg_some h
                                                      refine E_si g259 ?_
                                                      refine E_ps 4 (pc' := 1157) (l' := [some (.retAddr 0), some (.ref x1), some (.ref x2), some (.int x3)]) (st' := [.int (x3 + (2 : Int32)), .retAddr 0, .int (xs (x3 + (1 : Int32)).toNatClampNeg), .ref x2, .int z257.2]) rfl ?_
                                                      obtain ⟨g260, h⟩ := ifg_some h
                                                      refine E_si g260 ?_
                                                      refine E_ps 4 (pc' := 1162) (l' := [some (.retAddr 0), some (.ref x1), some (.ref x2), some (.int x3)]) (st' := [.int (x3 + (3 : Int32)), .retAddr 0, .int (xs (x3 + (2 : Int32)).toNatClampNeg), .int (xs (x3 + (1 : Int32)).toNatClampNeg), .ref x2, .int z257.2]) rfl ?_
                                                      obtain ⟨g261, h⟩ := ifg_some h
                                                      refine E_si g261 ?_
                                                      refine E_ps 4 (pc' := 1167) (l' := [some (.retAddr 0), some (.ref x1), some (.ref x2), some (.int x3)]) (st' := [.int (x3 + (4 : Int32)), .retAddr 0, .int (xs (x3 + (3 : Int32)).toNatClampNeg), .int (xs (x3 + (2 : Int32)).toNatClampNeg), .int (xs (x3 + (1 : Int32)).toNatClampNeg), .ref x2, .int z257.2]) rfl ?_
                                                      obtain ⟨g262, h⟩ := ifg_some h
                                                      refine E_si g262 ?_
                                                      refine E_ps 4 (pc' := 1172) (l' := [some (.retAddr 0), some (.ref x1), some (.ref x2), some (.int x3)]) (st' := [.int (x3 + (5 : Int32)), .retAddr 0, .int (xs (x3 + (4 : Int32)).toNatClampNeg), .int (xs (x3 + (3 : Int32)).toNatClampNeg), .int (xs (x3 + (2 : Int32)).toNatClampNeg), .int (xs (x3 + (1 : Int32)).toNatClampNeg), .ref x2, .int z257.2]) rfl ?_
                                                      obtain ⟨g263, h⟩ := ifg_some h
                                                      refine E_si g263 ?_
                                                      obtain ⟨z264, e265, h⟩ := Option.bind_eq_some_iff.mp h
                                                      refine E_callI (vs := [.ref x2, .int (xs (x3 + (1 : Int32)).toNatClampNeg), .int (xs (x3 + (2 : Int32)).toNatClampNeg), .int (xs (x3 + (3 : Int32)).toNatClampNeg), .int (xs (x3 + (4 : Int32)).toNatClampNeg), .int (xs (x3 + (5 : Int32)).toNatClampNeg)]) (rest := [.int z257.2]) rfl (by decide) rfl rfl (Nat.le_of_ble_eq_true rfl) (s262 e265) (by decide) ?_
                                                      by_cases c266 : z257.2 = z264.2
                                                      · rw [if_pos c266] at h
                                                        refine E_jt rfl rfl c266 ?_
                                                        exact E_wk (l' := [some (.retAddr 0), some (.ref x1), some (.ref x2), some (.int x3)]) ⟨rfl, rfl, rfl, rfl, trivial⟩ (s0_1622 k1 k2 h hr)
                                                      · rw [if_neg c266] at h
                                                        refine E_jf rfl rfl c266 ?_
                                                        obtain ⟨r, h, hr⟩ := lf_some (Dn := dn0_18 L xs x1 x2 o) h hr
                                                        refine E_blk rfl ?_
                                                        refine E_ps 1 (pc' := 1180) (l' := [some (.retAddr 0), some (.ref x1), some (.ref x2), some (.int x3)]) (st' := [.int (0 : Int32)]) rfl ?_
                                                        cases h
                                                        exact E_ret rfl (pg_mt_md (by decide)) rfl hr
                                                    · rw [if_neg c251] at h
                                                      by_cases c267 : ((xs x3.toNatClampNeg) &&& (63 : Int32)) = 25
                                                      · rw [if_pos c267] at h
                                                        refine E_j (pc' := 1181) rfl (by rw [c267]; rfl) ?_
                                                        refine E_blk rfl ?_
                                                        refine E_ps 5 (pc' := 1186) (l' := [some (.retAddr 0), some (.ref x1), some (.ref x2), some (.int x3)]) (st' := [.int (x3 + (1 : Int32)), .retAddr 0, .ref x1]) rfl ?_
                                                        obtain ⟨g268, h⟩ := ifg_some h
                                                        refine E_si g268 ?_
                                                        refine E_ps 4 (pc' := 1191) (l' := [some (.retAddr 0), some (.ref x1), some (.ref x2), some (.int x3)]) (st' := [.int (x3 + (2 : Int32)), .retAddr 0, .int (xs (x3 + (1 : Int32)).toNatClampNeg), .ref x1]) rfl ?_
                                                        obtain ⟨g269, h⟩ := ifg_some h
                                                        refine E_si g269 ?_
                                                        obtain ⟨z270, e271, h⟩ := Option.bind_eq_some_iff.mp h
                                                        refine E_callI (vs := [.ref x1, .int (xs (x3 + (1 : Int32)).toNatClampNeg), .int (xs (x3 + (2 : Int32)).toNatClampNeg)]) (rest := []) rfl (by decide) rfl rfl (Nat.le_of_ble_eq_true rfl) (s149 e271) (by decide) ?_
                                                        refine E_ps 5 (pc' := 1200) (l' := [some (.retAddr 0), some (.ref x1), some (.ref x2), some (.int x3)]) (st' := [.int (x3 + (1 : Int32)), .retAddr 0, .ref x2, .int z270.2]) rfl ?_
                                                        obtain ⟨g272, h⟩ := ifg_some h
                                                        refine E_si g272 ?_
                                                        refine E_ps 4 (pc' := 1205) (l' := [some (.retAddr 0), some (.ref x1), some (.ref x2), some (.int x3)]) (st' := [.int (x3 + (2 : Int32)), .retAddr 0, .int (xs (x3 + (1 : Int32)).toNatClampNeg), .ref x2, .int z270.2]) rfl ?_
                                                        obtain ⟨g273, h⟩ := ifg_some h
                                                        refine E_si g273 ?_
                                                        obtain ⟨z274, e275, h⟩ := Option.bind_eq_some_iff.mp h
                                                        refine E_callI (vs := [.ref x2, .int (xs (x3 + (1 : Int32)).toNatClampNeg), .int (xs (x3 + (2 : Int32)).toNatClampNeg)]) (rest := [.int z270.2]) rfl (by decide) rfl rfl (Nat.le_of_ble_eq_true rfl) (s273 e275) (by decide) ?_
                                                        by_cases c276 : z270.2 = z274.2
                                                        · rw [if_pos c276] at h
                                                          refine E_jt rfl rfl c276 ?_
                                                          exact E_wk (l' := [some (.retAddr 0), some (.ref x1), some (.ref x2), some (.int x3)]) ⟨rfl, rfl, rfl, rfl, trivial⟩ (s0_1622 k1 k2 h hr)
                                                        · rw [if_neg c276] at h
                                                          refine E_jf rfl rfl c276 ?_
                                                          obtain ⟨r, h, hr⟩ := lf_some (Dn := dn0_18 L xs x1 x2 o) h hr
                                                          refine E_blk rfl ?_
                                                          refine E_ps 1 (pc' := 1213) (l' := [some (.retAddr 0), some (.ref x1), some (.ref x2), some (.int x3)]) (st' := [.int (0 : Int32)]) rfl ?_
                                                          cases h
                                                          exact E_ret rfl (pg_mt_md (by decide)) rfl hr
                                                      · rw [if_neg c267] at h
                                                        by_cases c277 : ((xs x3.toNatClampNeg) &&& (63 : Int32)) = 26
                                                        · rw [if_pos c277] at h
                                                          refine E_j (pc' := 1214) rfl (by rw [c277]; rfl) ?_
                                                          refine E_blk rfl ?_
                                                          refine E_ps 1 (pc' := 1215) (l' := [some (.retAddr 0), some (.ref x1), some (.ref x2), some (.int x3)]) (st' := [.ref x1]) rfl ?_
                                                          obtain ⟨z278, e279, h⟩ := Option.bind_eq_some_iff.mp h
                                                          refine E_callI (vs := [.ref x1]) (rest := []) rfl (by decide) rfl rfl (Nat.le_of_ble_eq_true rfl) (s150 e279) (by decide) ?_
                                                          refine E_ps 1 (pc' := 1219) (l' := [some (.retAddr 0), some (.ref x1), some (.ref x2), some (.int x3)]) (st' := [.ref x2, .int z278.2]) rfl ?_
                                                          obtain ⟨z280, e281, h⟩ := Option.bind_eq_some_iff.mp h
                                                          refine E_callI (vs := [.ref x2]) (rest := [.int z278.2]) rfl (by decide) rfl rfl (Nat.le_of_ble_eq_true rfl) (s274 e281) (by decide) ?_
                                                          by_cases c282 : z278.2 = z280.2
                                                          · rw [if_pos c282] at h
                                                            refine E_jt rfl rfl c282 ?_
                                                            exact E_wk (l' := [some (.retAddr 0), some (.ref x1), some (.ref x2), some (.int x3)]) ⟨rfl, rfl, rfl, rfl, trivial⟩ (s0_1622 k1 k2 h hr)
                                                          · rw [if_neg c282] at h
                                                            refine E_jf rfl rfl c282 ?_
                                                            obtain ⟨r, h, hr⟩ := lf_some (Dn := dn0_18 L xs x1 x2 o) h hr
                                                            refine E_blk rfl ?_
                                                            refine E_ps 1 (pc' := 1226) (l' := [some (.retAddr 0), some (.ref x1), some (.ref x2), some (.int x3)]) (st' := [.int (0 : Int32)]) rfl ?_
                                                            cases h
                                                            exact E_ret rfl (pg_mt_md (by decide)) rfl hr
                                                        · rw [if_neg c277] at h
                                                          by_cases c283 : ((xs x3.toNatClampNeg) &&& (63 : Int32)) = 27
                                                          · rw [if_pos c283] at h
                                                            refine E_j (pc' := 1227) rfl (by rw [c283]; rfl) ?_
                                                            refine E_blk rfl ?_
                                                            refine E_ps 1 (pc' := 1228) (l' := [some (.retAddr 0), some (.ref x1), some (.ref x2), some (.int x3)]) (st' := [.ref x1]) rfl ?_
                                                            obtain ⟨z284, e285, h⟩ := Option.bind_eq_some_iff.mp h
                                                            refine E_callI (vs := [.ref x1]) (rest := []) rfl (by decide) rfl rfl (Nat.le_of_ble_eq_true rfl) (s151 e285) (by decide) ?_
                                                            refine E_ps 1 (pc' := 1232) (l' := [some (.retAddr 0), some (.ref x1), some (.ref x2), some (.int x3)]) (st' := [.ref x2, .int z284.2]) rfl ?_
                                                            obtain ⟨z286, e287, h⟩ := Option.bind_eq_some_iff.mp h
                                                            refine E_callI (vs := [.ref x2]) (rest := [.int z284.2]) rfl (by decide) rfl rfl (Nat.le_of_ble_eq_true rfl) (s276 e287) (by decide) ?_
                                                            by_cases c288 : z284.2 = z286.2
                                                            · rw [if_pos c288] at h
                                                              refine E_jt rfl rfl c288 ?_
                                                              exact E_wk (l' := [some (.retAddr 0), some (.ref x1), some (.ref x2), some (.int x3)]) ⟨rfl, rfl, rfl, rfl, trivial⟩ (s0_1622 k1 k2 h hr)
                                                            · rw [if_neg c288] at h
                                                              refine E_jf rfl rfl c288 ?_
                                                              obtain ⟨r, h, hr⟩ := lf_some (Dn := dn0_18 L xs x1 x2 o) h hr
                                                              refine E_blk rfl ?_
                                                              refine E_ps 1 (pc' := 1239) (l' := [some (.retAddr 0), some (.ref x1), some (.ref x2), some (.int x3)]) (st' := [.int (0 : Int32)]) rfl ?_
                                                              cases h
                                                              exact E_ret rfl (pg_mt_md (by decide)) rfl hr
                                                          · rw [if_neg c283] at h
                                                            by_cases c289 : ((xs x3.toNatClampNeg) &&& (63 : Int32)) = 28
                                                            · rw [if_pos c289] at h
                                                              refine E_j (pc' := 1240) rfl (by rw [c289]; rfl) ?_
                                                              refine E_blk rfl ?_
                                                              refine E_ps 5 (pc' := 1245) (l' := [some (.retAddr 0), some (.ref x1), some (.ref x2), some (.int x3)]) (st' := [.int (x3 + (1 : Int32)), .retAddr 0, .ref x1]) rfl ?_
                                                              obtain ⟨g290, h⟩ := ifg_some h
                                                              refine E_si g290 ?_
                                                              obtain ⟨z291, e292, h⟩ := Option.bind_eq_some_iff.mp h
                                                              refine E_callI (vs := [.ref x1, .int (xs (x3 + (1 : Int32)).toNatClampNeg)]) (rest := []) rfl (by decide) rfl rfl (Nat.le_of_ble_eq_true rfl) (s152 e292) (by decide) ?_
                                                              refine E_ps 5 (pc' := 1254) (l' := [some (.retAddr 0), some (.ref x1), some (.ref x2), some (.int x3)]) (st' := [.int (x3 + (1 : Int32)), .retAddr 0, .ref x2, .int z291.2]) rfl ?_
                                                              obtain ⟨g293, h⟩ := ifg_some h
                                                              refine E_si g293 ?_
                                                              obtain ⟨z294, e295, h⟩ := Option.bind_eq_some_iff.mp h
                                                              refine E_callI (vs := [.ref x2, .int (xs (x3 + (1 : Int32)).toNatClampNeg)]) (rest := [.int z291.2]) rfl (by decide) rfl rfl (Nat.le_of_ble_eq_true rfl) (s277 e295) (by decide) ?_
                                                              by_cases c296 : z291.2 = z294.2
                                                              · rw [if_pos c296] at h
                                                                refine E_jt rfl rfl c296 ?_
                                                                exact E_wk (l' := [some (.retAddr 0), some (.ref x1), some (.ref x2), some (.int x3)]) ⟨rfl, rfl, rfl, rfl, trivial⟩ (s0_1622 k1 k2 h hr)
                                                              · rw [if_neg c296] at h
                                                                refine E_jf rfl rfl c296 ?_
                                                                obtain ⟨r, h, hr⟩ := lf_some (Dn := dn0_18 L xs x1 x2 o) h hr
                                                                refine E_blk rfl ?_
                                                                refine E_ps 1 (pc' := 1262) (l' := [some (.retAddr 0), some (.ref x1), some (.ref x2), some (.int x3)]) (st' := [.int (0 : Int32)]) rfl ?_
                                                                cases h
                                                                exact E_ret rfl (pg_mt_md (by decide)) rfl hr
                                                            · rw [if_neg c289] at h
                                                              by_cases c297 : ((xs x3.toNatClampNeg) &&& (63 : Int32)) = 29
                                                              · rw [if_pos c297] at h
                                                                refine E_j (pc' := 1263) rfl (by rw [c297]; rfl) ?_
                                                                refine E_blk rfl ?_
                                                                refine E_ps 5 (pc' := 1268) (l' := [some (.retAddr 0), some (.ref x1), some (.ref x2), some (.int x3)]) (st' := [.int (x3 + (1 : Int32)), .retAddr 0, .ref x1]) rfl ?_
                                                                obtain ⟨g298, h⟩ := ifg_some h
                                                                refine E_si g298 ?_
                                                                refine E_ps 4 (pc' := 1273) (l' := [some (.retAddr 0), some (.ref x1), some (.ref x2), some (.int x3)]) (st' := [.int (x3 + (2 : Int32)), .retAddr 0, .int (xs (x3 + (1 : Int32)).toNatClampNeg), .ref x1]) rfl ?_
                                                                obtain ⟨g299, h⟩ := ifg_some h
                                                                refine E_si g299 ?_
                                                                refine E_ps 4 (pc' := 1278) (l' := [some (.retAddr 0), some (.ref x1), some (.ref x2), some (.int x3)]) (st' := [.int (x3 + (3 : Int32)), .retAddr 0, .int (xs (x3 + (2 : Int32)).toNatClampNeg), .int (xs (x3 + (1 : Int32)).toNatClampNeg), .ref x1]) rfl ?_
                                                                obtain ⟨g300, h⟩ := ifg_some h
                                                                refine E_si g300 ?_
                                                                refine E_ps 4 (pc' := 1283) (l' := [some (.retAddr 0), some (.ref x1), some (.ref x2), some (.int x3)]) (st' := [.int (x3 + (4 : Int32)), .retAddr 0, .int (xs (x3 + (3 : Int32)).toNatClampNeg), .int (xs (x3 + (2 : Int32)).toNatClampNeg), .int (xs (x3 + (1 : Int32)).toNatClampNeg), .ref x1]) rfl ?_
                                                                obtain ⟨g301, h⟩ := ifg_some h
                                                                refine E_si g301 ?_
                                                                refine E_ps 4 (pc' := 1288) (l' := [some (.retAddr 0), some (.ref x1), some (.ref x2), some (.int x3)]) (st' := [.int (x3 + (5 : Int32)), .retAddr 0, .int (xs (x3 + (4 : Int32)).toNatClampNeg), .int (xs (x3 + (3 : Int32)).toNatClampNeg), .int (xs (x3 + (2 : Int32)).toNatClampNeg), .int (xs (x3 + (1 : Int32)).toNatClampNeg), .ref x1]) rfl ?_
                                                                obtain ⟨g302, h⟩ := ifg_some h
                                                                refine E_si g302 ?_
                                                                obtain ⟨z303, e304, h⟩ := Option.bind_eq_some_iff.mp h
                                                                refine E_callI (vs := [.ref x1, .int (xs (x3 + (1 : Int32)).toNatClampNeg), .int (xs (x3 + (2 : Int32)).toNatClampNeg), .int (xs (x3 + (3 : Int32)).toNatClampNeg), .int (xs (x3 + (4 : Int32)).toNatClampNeg), .int (xs (x3 + (5 : Int32)).toNatClampNeg)]) (rest := []) rfl (by decide) rfl rfl (Nat.le_of_ble_eq_true rfl) (s153 e304) (by decide) ?_
                                                                refine E_ps 5 (pc' := 1297) (l' := [some (.retAddr 0), some (.ref x1), some (.ref x2), some (.int x3)]) (st' := [.int (x3 + (1 : Int32)), .retAddr 0, .ref x2, .int z303.2]) rfl ?_
                                                                obtain ⟨g305, h⟩ := ifg_some h
                                                                refine E_si g305 ?_
                                                                refine E_ps 4 (pc' := 1302) (l' := [some (.retAddr 0), some (.ref x1), some (.ref x2), some (.int x3)]) (st' := [.int (x3 + (2 : Int32)), .retAddr 0, .int (xs (x3 + (1 : Int32)).toNatClampNeg), .ref x2, .int z303.2]) rfl ?_
                                                                obtain ⟨g306, h⟩ := ifg_some h
                                                                refine E_si g306 ?_
                                                                refine E_ps 4 (pc' := 1307) (l' := [some (.retAddr 0), some (.ref x1), some (.ref x2), some (.int x3)]) (st' := [.int (x3 + (3 : Int32)), .retAddr 0, .int (xs (x3 + (2 : Int32)).toNatClampNeg), .int (xs (x3 + (1 : Int32)).toNatClampNeg), .ref x2, .int z303.2]) rfl ?_
                                                                obtain ⟨g307, h⟩ := ifg_some h
                                                                refine E_si g307 ?_
                                                                refine E_ps 4 (pc' := 1312) (l' := [some (.retAddr 0), some (.ref x1), some (.ref x2), some (.int x3)]) (st' := [.int (x3 + (4 : Int32)), .retAddr 0, .int (xs (x3 + (3 : Int32)).toNatClampNeg), .int (xs (x3 + (2 : Int32)).toNatClampNeg), .int (xs (x3 + (1 : Int32)).toNatClampNeg), .ref x2, .int z303.2]) rfl ?_
                                                                obtain ⟨g308, h⟩ := ifg_some h
                                                                refine E_si g308 ?_
                                                                refine E_ps 4 (pc' := 1317) (l' := [some (.retAddr 0), some (.ref x1), some (.ref x2), some (.int x3)]) (st' := [.int (x3 + (5 : Int32)), .retAddr 0, .int (xs (x3 + (4 : Int32)).toNatClampNeg), .int (xs (x3 + (3 : Int32)).toNatClampNeg), .int (xs (x3 + (2 : Int32)).toNatClampNeg), .int (xs (x3 + (1 : Int32)).toNatClampNeg), .ref x2, .int z303.2]) rfl ?_
                                                                obtain ⟨g309, h⟩ := ifg_some h
                                                                refine E_si g309 ?_
                                                                obtain ⟨z310, e311, h⟩ := Option.bind_eq_some_iff.mp h
                                                                refine E_callI (vs := [.ref x2, .int (xs (x3 + (1 : Int32)).toNatClampNeg), .int (xs (x3 + (2 : Int32)).toNatClampNeg), .int (xs (x3 + (3 : Int32)).toNatClampNeg), .int (xs (x3 + (4 : Int32)).toNatClampNeg), .int (xs (x3 + (5 : Int32)).toNatClampNeg)]) (rest := [.int z303.2]) rfl (by decide) rfl rfl (Nat.le_of_ble_eq_true rfl) (s204 e311) (by decide) ?_
                                                                by_cases c312 : z303.2 = z310.2
                                                                · rw [if_pos c312] at h
                                                                  refine E_jt rfl rfl c312 ?_
                                                                  exact E_wk (l' := [some (.retAddr 0), some (.ref x1), some (.ref x2), some (.int x3)]) ⟨rfl, rfl, rfl, rfl, trivial⟩ (s0_1622 k1 k2 h hr)
                                                                · rw [if_neg c312] at h
                                                                  refine E_jf rfl rfl c312 ?_
                                                                  obtain ⟨r, h, hr⟩ := lf_some (Dn := dn0_18 L xs x1 x2 o) h hr
                                                                  refine E_blk rfl ?_
                                                                  refine E_ps 1 (pc' := 1325) (l' := [some (.retAddr 0), some (.ref x1), some (.ref x2), some (.int x3)]) (st' := [.int (0 : Int32)]) rfl ?_
                                                                  cases h
                                                                  exact E_ret rfl (pg_mt_md (by decide)) rfl hr
                                                              · rw [if_neg c297] at h
                                                                by_cases c313 : ((xs x3.toNatClampNeg) &&& (63 : Int32)) = 30
                                                                · rw [if_pos c313] at h
                                                                  refine E_j (pc' := 1326) rfl (by rw [c313]; rfl) ?_
                                                                  refine E_blk rfl ?_
                                                                  refine E_ps 5 (pc' := 1331) (l' := [some (.retAddr 0), some (.ref x1), some (.ref x2), some (.int x3)]) (st' := [.int (x3 + (1 : Int32)), .retAddr 0, .ref x1]) rfl ?_
                                                                  obtain ⟨g314, h⟩ := ifg_some h
                                                                  refine E_si g314 ?_
                                                                  refine E_ps 4 (pc' := 1336) (l' := [some (.retAddr 0), some (.ref x1), some (.ref x2), some (.int x3)]) (st' := [.int (x3 + (2 : Int32)), .retAddr 0, .int (xs (x3 + (1 : Int32)).toNatClampNeg), .ref x1]) rfl ?_
                                                                  obtain ⟨g315, h⟩ := ifg_some h
                                                                  refine E_si g315 ?_
                                                                  obtain ⟨z316, e317, h⟩ := Option.bind_eq_some_iff.mp h
                                                                  refine E_callI (vs := [.ref x1, .int (xs (x3 + (1 : Int32)).toNatClampNeg), .int (xs (x3 + (2 : Int32)).toNatClampNeg)]) (rest := []) rfl (by decide) rfl rfl (Nat.le_of_ble_eq_true rfl) (s154 e317) (by decide) ?_
                                                                  refine E_ps 5 (pc' := 1345) (l' := [some (.retAddr 0), some (.ref x1), some (.ref x2), some (.int x3)]) (st' := [.int (x3 + (1 : Int32)), .retAddr 0, .ref x2, .int z316.2]) rfl ?_
                                                                  obtain ⟨g318, h⟩ := ifg_some h
                                                                  refine E_si g318 ?_
                                                                  refine E_ps 4 (pc' := 1350) (l' := [some (.retAddr 0), some (.ref x1), some (.ref x2), some (.int x3)]) (st' := [.int (x3 + (2 : Int32)), .retAddr 0, .int (xs (x3 + (1 : Int32)).toNatClampNeg), .ref x2, .int z316.2]) rfl ?_
                                                                  obtain ⟨g319, h⟩ := ifg_some h
                                                                  refine E_si g319 ?_
                                                                  obtain ⟨z320, e321, h⟩ := Option.bind_eq_some_iff.mp h
                                                                  refine E_callI (vs := [.ref x2, .int (xs (x3 + (1 : Int32)).toNatClampNeg), .int (xs (x3 + (2 : Int32)).toNatClampNeg)]) (rest := [.int z316.2]) rfl (by decide) rfl rfl (Nat.le_of_ble_eq_true rfl) (s249 e321) (by decide) ?_
                                                                  by_cases c322 : z316.2 = z320.2
                                                                  · rw [if_pos c322] at h
                                                                    refine E_jt rfl rfl c322 ?_
                                                                    exact E_wk (l' := [some (.retAddr 0), some (.ref x1), some (.ref x2), some (.int x3)]) ⟨rfl, rfl, rfl, rfl, trivial⟩ (s0_1622 k1 k2 h hr)
                                                                  · rw [if_neg c322] at h
                                                                    refine E_jf rfl rfl c322 ?_
                                                                    obtain ⟨r, h, hr⟩ := lf_some (Dn := dn0_18 L xs x1 x2 o) h hr
                                                                    refine E_blk rfl ?_
                                                                    refine E_ps 1 (pc' := 1358) (l' := [some (.retAddr 0), some (.ref x1), some (.ref x2), some (.int x3)]) (st' := [.int (0 : Int32)]) rfl ?_
                                                                    cases h
                                                                    exact E_ret rfl (pg_mt_md (by decide)) rfl hr
                                                                · rw [if_neg c313] at h
                                                                  by_cases c323 : ((xs x3.toNatClampNeg) &&& (63 : Int32)) = 31
                                                                  · rw [if_pos c323] at h
                                                                    refine E_j (pc' := 1359) rfl (by rw [c323]; rfl) ?_
                                                                    refine E_blk rfl ?_
                                                                    refine E_ps 5 (pc' := 1364) (l' := [some (.retAddr 0), some (.ref x1), some (.ref x2), some (.int x3)]) (st' := [.int (x3 + (1 : Int32)), .retAddr 0, .ref x1]) rfl ?_
                                                                    obtain ⟨g324, h⟩ := ifg_some h
                                                                    refine E_si g324 ?_
                                                                    refine E_ps 4 (pc' := 1369) (l' := [some (.retAddr 0), some (.ref x1), some (.ref x2), some (.int x3)]) (st' := [.int (x3 + (2 : Int32)), .retAddr 0, .int (xs (x3 + (1 : Int32)).toNatClampNeg), .ref x1]) rfl ?_
                                                                    obtain ⟨g325, h⟩ := ifg_some h
                                                                    refine E_si g325 ?_
                                                                    refine E_ps 4 (pc' := 1374) (l' := [some (.retAddr 0), some (.ref x1), some (.ref x2), some (.int x3)]) (st' := [.int (x3 + (3 : Int32)), .retAddr 0, .int (xs (x3 + (2 : Int32)).toNatClampNeg), .int (xs (x3 + (1 : Int32)).toNatClampNeg), .ref x1]) rfl ?_
                                                                    obtain ⟨g326, h⟩ := ifg_some h
                                                                    refine E_si g326 ?_
                                                                    refine E_ps 4 (pc' := 1379) (l' := [some (.retAddr 0), some (.ref x1), some (.ref x2), some (.int x3)]) (st' := [.int (x3 + (4 : Int32)), .retAddr 0, .int (xs (x3 + (3 : Int32)).toNatClampNeg), .int (xs (x3 + (2 : Int32)).toNatClampNeg), .int (xs (x3 + (1 : Int32)).toNatClampNeg), .ref x1]) rfl ?_
                                                                    obtain ⟨g327, h⟩ := ifg_some h
                                                                    refine E_si g327 ?_
                                                                    refine E_ps 4 (pc' := 1384) (l' := [some (.retAddr 0), some (.ref x1), some (.ref x2), some (.int x3)]) (st' := [.int (x3 + (5 : Int32)), .retAddr 0, .int (xs (x3 + (4 : Int32)).toNatClampNeg), .int (xs (x3 + (3 : Int32)).toNatClampNeg), .int (xs (x3 + (2 : Int32)).toNatClampNeg), .int (xs (x3 + (1 : Int32)).toNatClampNeg), .ref x1]) rfl ?_
                                                                    obtain ⟨g328, h⟩ := ifg_some h
                                                                    refine E_si g328 ?_
                                                                    obtain ⟨z329, e330, h⟩ := Option.bind_eq_some_iff.mp h
                                                                    refine E_callI (vs := [.ref x1, .int (xs (x3 + (1 : Int32)).toNatClampNeg), .int (xs (x3 + (2 : Int32)).toNatClampNeg), .int (xs (x3 + (3 : Int32)).toNatClampNeg), .int (xs (x3 + (4 : Int32)).toNatClampNeg), .int (xs (x3 + (5 : Int32)).toNatClampNeg)]) (rest := []) rfl (by decide) rfl rfl (Nat.le_of_ble_eq_true rfl) (s155 e330) (by decide) ?_
                                                                    refine E_ps 5 (pc' := 1393) (l' := [some (.retAddr 0), some (.ref x1), some (.ref x2), some (.int x3)]) (st' := [.int (x3 + (1 : Int32)), .retAddr 0, .ref x2, .int z329.2]) rfl ?_
                                                                    obtain ⟨g331, h⟩ := ifg_some h
                                                                    refine E_si g331 ?_
                                                                    refine E_ps 4 (pc' := 1398) (l' := [some (.retAddr 0), some (.ref x1), some (.ref x2), some (.int x3)]) (st' := [.int (x3 + (2 : Int32)), .retAddr 0, .int (xs (x3 + (1 : Int32)).toNatClampNeg), .ref x2, .int z329.2]) rfl ?_
                                                                    obtain ⟨g332, h⟩ := ifg_some h
                                                                    refine E_si g332 ?_
                                                                    refine E_ps 4 (pc' := 1403) (l' := [some (.retAddr 0), some (.ref x1), some (.ref x2), some (.int x3)]) (st' := [.int (x3 + (3 : Int32)), .retAddr 0, .int (xs (x3 + (2 : Int32)).toNatClampNeg), .int (xs (x3 + (1 : Int32)).toNatClampNeg), .ref x2, .int z329.2]) rfl ?_
                                                                    obtain ⟨g333, h⟩ := ifg_some h
                                                                    refine E_si g333 ?_
                                                                    refine E_ps 4 (pc' := 1408) (l' := [some (.retAddr 0), some (.ref x1), some (.ref x2), some (.int x3)]) (st' := [.int (x3 + (4 : Int32)), .retAddr 0, .int (xs (x3 + (3 : Int32)).toNatClampNeg), .int (xs (x3 + (2 : Int32)).toNatClampNeg), .int (xs (x3 + (1 : Int32)).toNatClampNeg), .ref x2, .int z329.2]) rfl ?_
                                                                    obtain ⟨g334, h⟩ := ifg_some h
                                                                    refine E_si g334 ?_
                                                                    refine E_ps 4 (pc' := 1413) (l' := [some (.retAddr 0), some (.ref x1), some (.ref x2), some (.int x3)]) (st' := [.int (x3 + (5 : Int32)), .retAddr 0, .int (xs (x3 + (4 : Int32)).toNatClampNeg), .int (xs (x3 + (3 : Int32)).toNatClampNeg), .int (xs (x3 + (2 : Int32)).toNatClampNeg), .int (xs (x3 + (1 : Int32)).toNatClampNeg), .ref x2, .int z329.2]) rfl ?_
                                                                    obtain ⟨g335, h⟩ := ifg_some h
                                                                    refine E_si g335 ?_
                                                                    obtain ⟨z336, e337, h⟩ := Option.bind_eq_some_iff.mp h
                                                                    refine E_callI (vs := [.ref x2, .int (xs (x3 + (1 : Int32)).toNatClampNeg), .int (xs (x3 + (2 : Int32)).toNatClampNeg), .int (xs (x3 + (3 : Int32)).toNatClampNeg), .int (xs (x3 + (4 : Int32)).toNatClampNeg), .int (xs (x3 + (5 : Int32)).toNatClampNeg)]) (rest := [.int z329.2]) rfl (by decide) rfl rfl (Nat.le_of_ble_eq_true rfl) (s263 e337) (by decide) ?_
                                                                    by_cases c338 : z329.2 = z336.2
                                                                    · rw [if_pos c338] at h
                                                                      refine E_jt rfl rfl c338 ?_
                                                                      exact E_wk (l' := [some (.retAddr 0), some (.ref x1), some (.ref x2), some (.int x3)]) ⟨rfl, rfl, rfl, rfl, trivial⟩ (s0_1622 k1 k2 h hr)
                                                                    · rw [if_neg c338] at h
                                                                      refine E_jf rfl rfl c338 ?_
                                                                      obtain ⟨r, h, hr⟩ := lf_some (Dn := dn0_18 L xs x1 x2 o) h hr
                                                                      refine E_blk rfl ?_
                                                                      refine E_ps 1 (pc' := 1421) (l' := [some (.retAddr 0), some (.ref x1), some (.ref x2), some (.int x3)]) (st' := [.int (0 : Int32)]) rfl ?_
                                                                      cases h
                                                                      exact E_ret rfl (pg_mt_md (by decide)) rfl hr
                                                                  · rw [if_neg c323] at h
                                                                    by_cases c339 : ((xs x3.toNatClampNeg) &&& (63 : Int32)) = 32
                                                                    · rw [if_pos c339] at h
                                                                      refine E_j (pc' := 1422) rfl (by rw [c339]; rfl) ?_
                                                                      refine E_blk rfl ?_
                                                                      refine E_ps 1 (pc' := 1423) (l' := [some (.retAddr 0), some (.ref x1), some (.ref x2), some (.int x3)]) (st' := [.ref x1]) rfl ?_
                                                                      obtain ⟨z340, e341, h⟩ := Option.bind_eq_some_iff.mp h
                                                                      refine E_callI (vs := [.ref x1]) (rest := []) rfl (by decide) rfl rfl (Nat.le_of_ble_eq_true rfl) (s156 e341) (by decide) ?_
                                                                      refine E_ps 1 (pc' := 1427) (l' := [some (.retAddr 0), some (.ref x1), some (.ref x2), some (.int x3)]) (st' := [.ref x2, .int z340.2]) rfl ?_
                                                                      obtain ⟨z342, e343, h⟩ := Option.bind_eq_some_iff.mp h
                                                                      refine E_callI (vs := [.ref x2]) (rest := [.int z340.2]) rfl (by decide) rfl rfl (Nat.le_of_ble_eq_true rfl) (s268 e343) (by decide) ?_
                                                                      by_cases c344 : z340.2 = z342.2
                                                                      · rw [if_pos c344] at h
                                                                        refine E_jt rfl rfl c344 ?_
                                                                        exact E_wk (l' := [some (.retAddr 0), some (.ref x1), some (.ref x2), some (.int x3)]) ⟨rfl, rfl, rfl, rfl, trivial⟩ (s0_1622 k1 k2 h hr)
                                                                      · rw [if_neg c344] at h
                                                                        refine E_jf rfl rfl c344 ?_
                                                                        obtain ⟨r, h, hr⟩ := lf_some (Dn := dn0_18 L xs x1 x2 o) h hr
                                                                        refine E_blk rfl ?_
                                                                        refine E_ps 1 (pc' := 1434) (l' := [some (.retAddr 0), some (.ref x1), some (.ref x2), some (.int x3)]) (st' := [.int (0 : Int32)]) rfl ?_
                                                                        cases h
                                                                        exact E_ret rfl (pg_mt_md (by decide)) rfl hr
                                                                    · rw [if_neg c339] at h
                                                                      by_cases c345 : ((xs x3.toNatClampNeg) &&& (63 : Int32)) = 33
                                                                      · rw [if_pos c345] at h
                                                                        refine E_j (pc' := 1435) rfl (by rw [c345]; rfl) ?_
                                                                        refine E_blk rfl ?_
                                                                        refine E_ps 5 (pc' := 1440) (l' := [some (.retAddr 0), some (.ref x1), some (.ref x2), some (.int x3)]) (st' := [.int (x3 + (1 : Int32)), .retAddr 0, .ref x1]) rfl ?_
                                                                        obtain ⟨g346, h⟩ := ifg_some h
                                                                        refine E_si g346 ?_
                                                                        obtain ⟨z347, e348, h⟩ := Option.bind_eq_some_iff.mp h
                                                                        refine E_callI (vs := [.ref x1, .int (xs (x3 + (1 : Int32)).toNatClampNeg)]) (rest := []) rfl (by decide) rfl rfl (Nat.le_of_ble_eq_true rfl) (s157 e348) (by decide) ?_
                                                                        refine E_ps 5 (pc' := 1449) (l' := [some (.retAddr 0), some (.ref x1), some (.ref x2), some (.int x3)]) (st' := [.int (x3 + (1 : Int32)), .retAddr 0, .ref x2, .int z347.2]) rfl ?_
                                                                        obtain ⟨g349, h⟩ := ifg_some h
                                                                        refine E_si g349 ?_
                                                                        obtain ⟨z350, e351, h⟩ := Option.bind_eq_some_iff.mp h
                                                                        refine E_callI (vs := [.ref x2, .int (xs (x3 + (1 : Int32)).toNatClampNeg)]) (rest := [.int z347.2]) rfl (by decide) rfl rfl (Nat.le_of_ble_eq_true rfl) (s269 e351) (by decide) ?_
                                                                        by_cases c352 : z347.2 = z350.2
                                                                        · rw [if_pos c352] at h
                                                                          refine E_jt rfl rfl c352 ?_
                                                                          exact E_wk (l' := [some (.retAddr 0), some (.ref x1), some (.ref x2), some (.int x3)]) ⟨rfl, rfl, rfl, rfl, trivial⟩ (s0_1622 k1 k2 h hr)
                                                                        · rw [if_neg c352] at h
                                                                          refine E_jf rfl rfl c352 ?_
                                                                          obtain ⟨r, h, hr⟩ := lf_some (Dn := dn0_18 L xs x1 x2 o) h hr
                                                                          refine E_blk rfl ?_
                                                                          refine E_ps 1 (pc' := 1457) (l' := [some (.retAddr 0), some (.ref x1), some (.ref x2), some (.int x3)]) (st' := [.int (0 : Int32)]) rfl ?_
                                                                          cases h
                                                                          exact E_ret rfl (pg_mt_md (by decide)) rfl hr
                                                                      · rw [if_neg c345] at h
                                                                        by_cases c353 : ((xs x3.toNatClampNeg) &&& (63 : Int32)) = 34
                                                                        · rw [if_pos c353] at h
                                                                          refine E_j (pc' := 1458) rfl (by rw [c353]; rfl) ?_
                                                                          refine E_blk rfl ?_
                                                                          refine E_ps 5 (pc' := 1463) (l' := [some (.retAddr 0), some (.ref x1), some (.ref x2), some (.int x3)]) (st' := [.int (x3 + (1 : Int32)), .retAddr 0, .ref x1]) rfl ?_
                                                                          obtain ⟨g354, h⟩ := ifg_some h
                                                                          refine E_si g354 ?_
                                                                          by_cases c355 : (xs (x3 + (1 : Int32)).toNatClampNeg) = 0
                                                                          · rw [if_pos c355] at h
                                                                            refine E_jt rfl rfl c355 ?_
                                                                            refine E_blk rfl ?_
                                                                            refine E_ps 1 (pc' := 1472) (l' := [some (.retAddr 0), some (.ref x1), some (.ref x2), some (.int x3)]) (st' := [.int (0 : Int32), .ref x1]) rfl ?_
                                                                            exact E_wk (l' := [some (.retAddr 0), some (.ref x1), some (.ref x2), some (.int x3)]) ⟨rfl, rfl, rfl, rfl, trivial⟩ (s0_1472 k1 k2 k1 h hr)
                                                                          · rw [if_neg c355] at h
                                                                            refine E_jf rfl rfl c355 ?_
                                                                            refine E_blk rfl ?_
                                                                            refine E_ps 1 (pc' := 1468) (l' := [some (.retAddr 0), some (.ref x1), some (.ref x2), some (.int x3)]) (st' := [.int (1 : Int32), .ref x1]) rfl ?_
                                                                            refine E_j rfl rfl ?_
                                                                            exact E_wk (l' := [some (.retAddr 0), some (.ref x1), some (.ref x2), some (.int x3)]) ⟨rfl, rfl, rfl, rfl, trivial⟩ (s0_1472 k1 k2 k1 h hr)
                                                                        · rw [if_neg c353] at h
                                                                          by_cases c356 : ((xs x3.toNatClampNeg) &&& (63 : Int32)) = 35
                                                                          · rw [if_pos c356] at h
                                                                            refine E_j (pc' := 1507) rfl (by rw [c356]; rfl) ?_
                                                                            refine E_blk rfl ?_
                                                                            refine E_ps 5 (pc' := 1512) (l' := [some (.retAddr 0), some (.ref x1), some (.ref x2), some (.int x3)]) (st' := [.int (x3 + (1 : Int32)), .retAddr 0, .ref x1]) rfl ?_
                                                                            obtain ⟨g357, h⟩ := ifg_some h
                                                                            refine E_si g357 ?_
                                                                            obtain ⟨z358, e359, h⟩ := Option.bind_eq_some_iff.mp h
                                                                            refine E_callI (vs := [.ref x1, .int (xs (x3 + (1 : Int32)).toNatClampNeg)]) (rest := []) rfl (by decide) rfl rfl (Nat.le_of_ble_eq_true rfl) (s159 e359) (by decide) ?_
                                                                            refine E_ps 5 (pc' := 1521) (l' := [some (.retAddr 0), some (.ref x1), some (.ref x2), some (.int x3)]) (st' := [.int (x3 + (1 : Int32)), .retAddr 0, .ref x2, .int z358.2]) rfl ?_
                                                                            obtain ⟨g360, h⟩ := ifg_some h
                                                                            refine E_si g360 ?_
                                                                            obtain ⟨z361, e362, h⟩ := Option.bind_eq_some_iff.mp h
                                                                            refine E_callI (vs := [.ref x2, .int (xs (x3 + (1 : Int32)).toNatClampNeg)]) (rest := [.int z358.2]) rfl (by decide) rfl rfl (Nat.le_of_ble_eq_true rfl) (s272 e362) (by decide) ?_
                                                                            by_cases c363 : z358.2 = z361.2
                                                                            · rw [if_pos c363] at h
                                                                              refine E_jt rfl rfl c363 ?_
                                                                              exact E_wk (l' := [some (.retAddr 0), some (.ref x1), some (.ref x2), some (.int x3)]) ⟨rfl, rfl, rfl, rfl, trivial⟩ (s0_1622 k1 k2 h hr)
                                                                            · rw [if_neg c363] at h
                                                                              refine E_jf rfl rfl c363 ?_
                                                                              obtain ⟨r, h, hr⟩ := lf_some (Dn := dn0_18 L xs x1 x2 o) h hr
                                                                              refine E_blk rfl ?_
                                                                              refine E_ps 1 (pc' := 1529) (l' := [some (.retAddr 0), some (.ref x1), some (.ref x2), some (.int x3)]) (st' := [.int (0 : Int32)]) rfl ?_
                                                                              cases h
                                                                              exact E_ret rfl (pg_mt_md (by decide)) rfl hr
                                                                          · rw [if_neg c356] at h
                                                                            by_cases c364 : ((xs x3.toNatClampNeg) &&& (63 : Int32)) = 36
                                                                            · rw [if_pos c364] at h
                                                                              refine E_j (pc' := 1530) rfl (by rw [c364]; rfl) ?_
                                                                              refine E_blk rfl ?_
                                                                              refine E_ps 5 (pc' := 1535) (l' := [some (.retAddr 0), some (.ref x1), some (.ref x2), some (.int x3)]) (st' := [.int (x3 + (1 : Int32)), .retAddr 0, .ref x1]) rfl ?_
                                                                              obtain ⟨g365, h⟩ := ifg_some h
                                                                              refine E_si g365 ?_
                                                                              obtain ⟨z366, e367, h⟩ := Option.bind_eq_some_iff.mp h
                                                                              refine E_callI (vs := [.ref x1, .int (xs (x3 + (1 : Int32)).toNatClampNeg)]) (rest := []) rfl (by decide) rfl rfl (Nat.le_of_ble_eq_true rfl) (s160 e367) (by decide) ?_
                                                                              refine E_ps 5 (pc' := 1544) (l' := [some (.retAddr 0), some (.ref x1), some (.ref x2), some (.int x3)]) (st' := [.int (x3 + (1 : Int32)), .retAddr 0, .ref x2, .int z366.2]) rfl ?_
                                                                              obtain ⟨g368, h⟩ := ifg_some h
                                                                              refine E_si g368 ?_
                                                                              obtain ⟨z369, e370, h⟩ := Option.bind_eq_some_iff.mp h
                                                                              refine E_callI (vs := [.ref x2, .int (xs (x3 + (1 : Int32)).toNatClampNeg)]) (rest := [.int z366.2]) rfl (by decide) rfl rfl (Nat.le_of_ble_eq_true rfl) (s278 e370) (by decide) ?_
                                                                              by_cases c371 : z366.2 = z369.2
                                                                              · rw [if_pos c371] at h
                                                                                refine E_jt rfl rfl c371 ?_
                                                                                exact E_wk (l' := [some (.retAddr 0), some (.ref x1), some (.ref x2), some (.int x3)]) ⟨rfl, rfl, rfl, rfl, trivial⟩ (s0_1622 k1 k2 h hr)
                                                                              · rw [if_neg c371] at h
                                                                                refine E_jf rfl rfl c371 ?_
                                                                                obtain ⟨r, h, hr⟩ := lf_some (Dn := dn0_18 L xs x1 x2 o) h hr
                                                                                refine E_blk rfl ?_
                                                                                refine E_ps 1 (pc' := 1552) (l' := [some (.retAddr 0), some (.ref x1), some (.ref x2), some (.int x3)]) (st' := [.int (0 : Int32)]) rfl ?_
                                                                                cases h
                                                                                exact E_ret rfl (pg_mt_md (by decide)) rfl hr
                                                                            · rw [if_neg c364] at h
                                                                              by_cases c372 : ((xs x3.toNatClampNeg) &&& (63 : Int32)) = 37
                                                                              · rw [if_pos c372] at h
                                                                                refine E_j (pc' := 1553) rfl (by rw [c372]; rfl) ?_
                                                                                refine E_blk rfl ?_
                                                                                refine E_ps 5 (pc' := 1558) (l' := [some (.retAddr 0), some (.ref x1), some (.ref x2), some (.int x3)]) (st' := [.int (x3 + (1 : Int32)), .retAddr 0, .ref x1]) rfl ?_
                                                                                obtain ⟨g373, h⟩ := ifg_some h
                                                                                refine E_si g373 ?_
                                                                                obtain ⟨z374, e375, h⟩ := Option.bind_eq_some_iff.mp h
                                                                                refine E_callI (vs := [.ref x1, .int (xs (x3 + (1 : Int32)).toNatClampNeg)]) (rest := []) rfl (by decide) rfl rfl (Nat.le_of_ble_eq_true rfl) (s161 e375) (by decide) ?_
                                                                                refine E_ps 5 (pc' := 1567) (l' := [some (.retAddr 0), some (.ref x1), some (.ref x2), some (.int x3)]) (st' := [.int (x3 + (1 : Int32)), .retAddr 0, .ref x2, .int z374.2]) rfl ?_
                                                                                obtain ⟨g376, h⟩ := ifg_some h
                                                                                refine E_si g376 ?_
                                                                                obtain ⟨z377, e378, h⟩ := Option.bind_eq_some_iff.mp h
                                                                                refine E_callI (vs := [.ref x2, .int (xs (x3 + (1 : Int32)).toNatClampNeg)]) (rest := [.int z374.2]) rfl (by decide) rfl rfl (Nat.le_of_ble_eq_true rfl) (s279 e378) (by decide) ?_
                                                                                by_cases c379 : z374.2 = z377.2
                                                                                · rw [if_pos c379] at h
                                                                                  refine E_jt rfl rfl c379 ?_
                                                                                  exact E_wk (l' := [some (.retAddr 0), some (.ref x1), some (.ref x2), some (.int x3)]) ⟨rfl, rfl, rfl, rfl, trivial⟩ (s0_1622 k1 k2 h hr)
                                                                                · rw [if_neg c379] at h
                                                                                  refine E_jf rfl rfl c379 ?_
                                                                                  obtain ⟨r, h, hr⟩ := lf_some (Dn := dn0_18 L xs x1 x2 o) h hr
                                                                                  refine E_blk rfl ?_
                                                                                  refine E_ps 1 (pc' := 1575) (l' := [some (.retAddr 0), some (.ref x1), some (.ref x2), some (.int x3)]) (st' := [.int (0 : Int32)]) rfl ?_
                                                                                  cases h
                                                                                  exact E_ret rfl (pg_mt_md (by decide)) rfl hr
                                                                              · rw [if_neg c372] at h
                                                                                by_cases c380 : ((xs x3.toNatClampNeg) &&& (63 : Int32)) = 38
                                                                                · rw [if_pos c380] at h
                                                                                  refine E_j (pc' := 1576) rfl (by rw [c380]; rfl) ?_
                                                                                  refine E_blk rfl ?_
                                                                                  refine E_ps 5 (pc' := 1581) (l' := [some (.retAddr 0), some (.ref x1), some (.ref x2), some (.int x3)]) (st' := [.int (x3 + (1 : Int32)), .retAddr 0, .ref x1]) rfl ?_
                                                                                  obtain ⟨g381, h⟩ := ifg_some h
                                                                                  refine E_si g381 ?_
                                                                                  obtain ⟨z382, e383, h⟩ := Option.bind_eq_some_iff.mp h
                                                                                  refine E_callI (vs := [.ref x1, .int (xs (x3 + (1 : Int32)).toNatClampNeg)]) (rest := []) rfl (by decide) rfl rfl (Nat.le_of_ble_eq_true rfl) (s162 e383) (by decide) ?_
                                                                                  refine E_ps 5 (pc' := 1590) (l' := [some (.retAddr 0), some (.ref x1), some (.ref x2), some (.int x3)]) (st' := [.int (x3 + (1 : Int32)), .retAddr 0, .ref x2, .int z382.2]) rfl ?_
                                                                                  obtain ⟨g384, h⟩ := ifg_some h
                                                                                  refine E_si g384 ?_
                                                                                  obtain ⟨z385, e386, h⟩ := Option.bind_eq_some_iff.mp h
                                                                                  refine E_callI (vs := [.ref x2, .int (xs (x3 + (1 : Int32)).toNatClampNeg)]) (rest := [.int z382.2]) rfl (by decide) rfl rfl (Nat.le_of_ble_eq_true rfl) (s280 e386) (by decide) ?_
                                                                                  by_cases c387 : z382.2 = z385.2
                                                                                  · rw [if_pos c387] at h
                                                                                    refine E_jt rfl rfl c387 ?_
                                                                                    exact E_wk (l' := [some (.retAddr 0), some (.ref x1), some (.ref x2), some (.int x3)]) ⟨rfl, rfl, rfl, rfl, trivial⟩ (s0_1622 k1 k2 h hr)
                                                                                  · rw [if_neg c387] at h
                                                                                    refine E_jf rfl rfl c387 ?_
                                                                                    obtain ⟨r, h, hr⟩ := lf_some (Dn := dn0_18 L xs x1 x2 o) h hr
                                                                                    refine E_blk rfl ?_
                                                                                    refine E_ps 1 (pc' := 1598) (l' := [some (.retAddr 0), some (.ref x1), some (.ref x2), some (.int x3)]) (st' := [.int (0 : Int32)]) rfl ?_
                                                                                    cases h
                                                                                    exact E_ret rfl (pg_mt_md (by decide)) rfl hr
                                                                                · rw [if_neg c380] at h
                                                                                  by_cases c388 : ((xs x3.toNatClampNeg) &&& (63 : Int32)) = 39
                                                                                  · rw [if_pos c388] at h
                                                                                    refine E_j (pc' := 1599) rfl (by rw [c388]; rfl) ?_
                                                                                    refine E_blk rfl ?_
                                                                                    refine E_ps 5 (pc' := 1604) (l' := [some (.retAddr 0), some (.ref x1), some (.ref x2), some (.int x3)]) (st' := [.int (x3 + (1 : Int32)), .retAddr 0, .ref x1]) rfl ?_
                                                                                    obtain ⟨g389, h⟩ := ifg_some h
                                                                                    refine E_si g389 ?_
                                                                                    obtain ⟨z390, e391, h⟩ := Option.bind_eq_some_iff.mp h
                                                                                    refine E_callI (vs := [.ref x1, .int (xs (x3 + (1 : Int32)).toNatClampNeg)]) (rest := []) rfl (by decide) rfl rfl (Nat.le_of_ble_eq_true rfl) (s163 e391) (by decide) ?_
                                                                                    refine E_ps 5 (pc' := 1613) (l' := [some (.retAddr 0), some (.ref x1), some (.ref x2), some (.int x3)]) (st' := [.int (x3 + (1 : Int32)), .retAddr 0, .ref x2, .int z390.2]) rfl ?_
                                                                                    obtain ⟨g392, h⟩ := ifg_some h
                                                                                    refine E_si g392 ?_
                                                                                    obtain ⟨z393, e394, h⟩ := Option.bind_eq_some_iff.mp h
                                                                                    refine E_callI (vs := [.ref x2, .int (xs (x3 + (1 : Int32)).toNatClampNeg)]) (rest := [.int z390.2]) rfl (by decide) rfl rfl (Nat.le_of_ble_eq_true rfl) (s281 e394) (by decide) ?_
                                                                                    by_cases c395 : z390.2 = z393.2
                                                                                    · rw [if_pos c395] at h
                                                                                      refine E_jt rfl rfl c395 ?_
                                                                                      exact E_wk (l' := [some (.retAddr 0), some (.ref x1), some (.ref x2), some (.int x3)]) ⟨rfl, rfl, rfl, rfl, trivial⟩ (s0_1622 k1 k2 h hr)
                                                                                    · rw [if_neg c395] at h
                                                                                      refine E_jf rfl rfl c395 ?_
                                                                                      obtain ⟨r, h, hr⟩ := lf_some (Dn := dn0_18 L xs x1 x2 o) h hr
                                                                                      refine E_blk rfl ?_
                                                                                      refine E_ps 1 (pc' := 1621) (l' := [some (.retAddr 0), some (.ref x1), some (.ref x2), some (.int x3)]) (st' := [.int (0 : Int32)]) rfl ?_
                                                                                      cases h
                                                                                      exact E_ret rfl (pg_mt_md (by decide)) rfl hr
                                                                                  · rw [if_neg c388] at h
                                                                                    refine E_j (pc' := 1622) rfl (hk_tsw [0, 1, 2, 3, 4, 5, 6, 7, 8, 9, 10, 11, 12, 13, 14, 15, 16, 17, 18, 19, 20, 21, 22, 23, 24, 25, 26, 27, 28, 29, 30, 31, 32, 33, 34, 35, 36, 37, 38, 39] (by intro z hz; simp only [List.mem_cons, List.not_mem_nil, or_false] at hz; rcases hz with rfl | rfl | rfl | rfl | rfl | rfl | rfl | rfl | rfl | rfl | rfl | rfl | rfl | rfl | rfl | rfl | rfl | rfl | rfl | rfl | rfl | rfl | rfl | rfl | rfl | rfl | rfl | rfl | rfl | rfl | rfl | rfl | rfl | rfl | rfl | rfl | rfl | rfl | rfl | rfl <;> assumption) (by decide) (by decide +kernel)) ?_
                                                                                    exact E_wk (l' := [some (.retAddr 0), some (.ref x1), some (.ref x2), some (.int x3)]) ⟨rfl, rfl, rfl, rfl, trivial⟩ (s0_1622 k1 k2 h hr)
theorem s0_18_w {L : Nat} {xs : Nat → Int32} {x1 : Nat} {x2 : Nat} {x3 : Int32} {s : xS} {o : xH × Option Value} {r : (xS × Int32)} (k1 : oK x1 11 = true) (k2 : oK x2 12 = true) (h : whl (fun q : (Int32 × xS) => f0_18 L xs x1 x2 q.1 q.2) (x3, s) = some r) (hr : dn0 o r) : Ev (some (L, xs)) 13 0 [] 18 [some (.retAddr 0), some (.ref x1), some (.ref x2), some (.int x3)] [] (hk_of s) o := by
  refine whl_snd (E := fun q : (Int32 × xS) => Ev (some (L, xs)) 13 0 [] 18 [some (.retAddr 0), some (.ref x1), some (.ref x2), some (.int q.1)] [] (hk_of q.2) o) (P := fun r => dn0 o r) (fun q r h hr => ?_) h hr
  exact s0_18 k1 k2 h (by cases r <;> exact hr)
