-- 286: java/util/Arrays.fill([II)V
def dn286 (o : xH × Option Value) (r : xS × Unit) : Prop := o = (hk_of r.1, none)
def dn286_5 (sc : Option (Nat × (Nat → Int32))) (x0 : Nat) (x1 : Int32) (x3 : Int32) (o : xH × Option Value) (r : ((Int32 × xS) ⊕ (xS × Unit))) : Prop := match r with
  | .inl q => Ev sc 1 286 [] 5 [some (.ref x0), some (.int x1), some (.int q.1), some (.int x3)] [] (hk_of q.2) o
  | .inr r => dn286 o r
noncomputable def f286_5 (x0 : Nat) (x1 : Int32) (x2 : Int32) (x3 : Int32) (s : xS) : Option ((Int32 × xS) ⊕ (xS × Unit)) := if x3 ≤ x2 then (Option.map Sum.inr (some (s, ()))) else ((wI s x0 x2 x1).bind fun t2 => some (Sum.inl ((x2 + (1 : Int32)), t2)))
set_option maxRecDepth 20000 in
theorem s286_5 {sc : Option (Nat × (Nat → Int32))} {x0 : Nat} {x1 : Int32} {x2 : Int32} {x3 : Int32} {s : xS} {o : xH × Option Value} {r : ((Int32 × xS) ⊕ (xS × Unit))}  (h : f286_5 x0 x1 x2 x3 s = some r) (hr : dn286_5 sc x0 x1 x3 o r) : Ev sc 1 286 [] 5 [some (.ref x0), some (.int x1), some (.int x2), some (.int x3)] [] (hk_of s) o := by
  unfold f286_5 at h
  refine E_blk rfl ?_
  refine E_ps 2 (pc' := 7) (l' := [some (.ref x0), some (.int x1), some (.int x2), some (.int x3)]) (st' := [.int x3, .int x2]) rfl ?_
  by_cases c1 : x3 ≤ x2
  · rw [if_pos c1] at h
    refine E_jt rfl rfl c1 ?_
    obtain ⟨r, h, hr⟩ := lf_some (Dn := dn286_5 sc x0 x1 x3 o) h hr
    refine E_blk rfl ?_
    cases h
    exact E_ret rfl (pg_mt_md (by decide)) rfl hr
  · rw [if_neg c1] at h
    refine E_jf rfl rfl c1 ?_
    refine E_blk rfl ?_
    refine E_ps 3 (pc' := 13) (l' := [some (.ref x0), some (.int x1), some (.int x2), some (.int x3)]) (st' := [.int x1, .int x2, .ref x0]) rfl ?_
    obtain ⟨t2, e3, h⟩ := Option.bind_eq_some_iff.mp h
    refine E_wi e3 ?_
    refine E_ps 1 (pc' := 17) (l' := [some (.ref x0), some (.int x1), some (.int (x2 + (1 : Int32))), some (.int x3)]) (st' := []) rfl ?_
    refine E_j rfl rfl ?_
    cases h
    exact E_wk (l' := [some (.ref x0), some (.int x1), some (.int (x2 + (1 : Int32))), some (.int x3)]) ⟨rfl, rfl, rfl, rfl, trivial⟩ hr
theorem s286_5_w {sc : Option (Nat × (Nat → Int32))} {x0 : Nat} {x1 : Int32} {x2 : Int32} {x3 : Int32} {s : xS} {o : xH × Option Value} {r : (xS × Unit)}  (h : whl (fun q : (Int32 × xS) => f286_5 x0 x1 q.1 x3 q.2) (x2, s) = some r) (hr : dn286 o r) : Ev sc 1 286 [] 5 [some (.ref x0), some (.int x1), some (.int x2), some (.int x3)] [] (hk_of s) o := by
  refine whl_snd (E := fun q : (Int32 × xS) => Ev sc 1 286 [] 5 [some (.ref x0), some (.int x1), some (.int q.1), some (.int x3)] [] (hk_of q.2) o) (P := fun r => dn286 o r) (fun q r h hr => ?_) h hr
  exact s286_5  h (by cases r <;> exact hr)
noncomputable def f286 (x0 : Nat) (x1 : Int32) (s : xS) : Option (xS × Unit) :=  (aN x0).bind fun v1 => whl (fun q : (Int32 × xS) => f286_5 x0 x1 q.1 v1 q.2) ((0 : Int32), s)
set_option maxRecDepth 20000 in
theorem s286 {sc : Option (Nat × (Nat → Int32))} {x0 : Nat} {x1 : Int32} {s : xS} {r : xS × Unit} (h : f286 x0 x1 s = some r) : Cl sc 1 286 [.ref x0, .int x1] (hk_of s) (hk_of r.1, none) := by
  unfold f286 at h
  refine ⟨pg_md 286, [some (.ref x0), some (.int x1), none, none], pg_mt_md (by decide), rfl, rfl, ?_⟩
  generalize ho : ((hk_of r.1, none) : xH × Option Value) = o
  have hr : dn286 o r := ho.symm
  refine E_blk rfl ?_
  refine E_ps 3 (pc' := 3) (l' := [some (.ref x0), some (.int x1), some (.int (0 : Int32)), none]) (st' := [.ref x0]) rfl ?_
  obtain ⟨v1, e2, h⟩ := Option.bind_eq_some_iff.mp h
  refine E_an e2 ?_
  refine E_ps 1 (pc' := 5) (l' := [some (.ref x0), some (.int x1), some (.int (0 : Int32)), some (.int v1)]) (st' := []) rfl ?_
  exact E_wk (l' := [some (.ref x0), some (.int x1), some (.int (0 : Int32)), some (.int v1)]) ⟨rfl, rfl, rfl, rfl, trivial⟩ (s286_5_w  h hr)

-- 2: ThreePlates$Bench.begin(LThreePlates$Shop;)V
def dn2 (o : xH × Option Value) (r : xS × Unit) : Prop := o = (hk_of r.1, none)
noncomputable def f2 (x0 : Nat) (x1 : Nat) (s : xS) : Option (xS × Unit) := ifg (oK x0 0 = true) <| ifg (oK x1 7 = true) <| (hk_R x1 1).bind fun a1 => (hk_R x0 0).bind fun a3 => (hk_R x0 0).bind fun a5 => (aN a5).bind fun v7 => (cpI s a1 (0 : Int32) a3 (0 : Int32) v7).bind fun t9 => (hk_R x0 1).bind fun a11 => (f286 a11 (0 : Int32) t9).bind fun z13 => (hk_R x0 2).bind fun a15 => (f286 a15 (0 : Int32) z13.1).bind fun z17 => (pI z17.1 x0 3 (0 : Int32)).bind fun t19 => (pI t19 x0 4 (0 : Int32)).bind fun t21 => some (t21, ())
set_option maxRecDepth 20000 in
theorem s2 {sc : Option (Nat × (Nat → Int32))} {x0 : Nat} {x1 : Nat} {s : xS} {r : xS × Unit} (h : f2 x0 x1 s = some r) : Cl sc 2 2 [.ref x0, .ref x1] (hk_of s) (hk_of r.1, none) := by
  unfold f2 at h
  obtain ⟨k0, h⟩ := ifg_some h
  obtain ⟨k1, h⟩ := ifg_some h
  refine ⟨pg_md 2, [some (.ref x0), some (.ref x1)], pg_mt_md (by decide), (hk_rcv k0), rfl, ?_⟩
  generalize ho : ((hk_of r.1, none) : xH × Option Value) = o
  have hr : dn2 o r := ho.symm
  refine E_blk rfl ?_
  refine E_ps 1 (pc' := 1) (l' := [some (.ref x0), some (.ref x1)]) (st' := [.ref x1]) rfl ?_
  obtain ⟨a1, e2, h⟩ := Option.bind_eq_some_iff.mp h
  refine E_gr k1 (by decide) rfl e2 ?_
  refine E_ps 2 (pc' := 6) (l' := [some (.ref x0), some (.ref x1)]) (st' := [.ref x0, .int (0 : Int32), .ref a1]) rfl ?_
  obtain ⟨a3, e4, h⟩ := Option.bind_eq_some_iff.mp h
  refine E_gr k0 (by decide) rfl e4 ?_
  refine E_ps 2 (pc' := 11) (l' := [some (.ref x0), some (.ref x1)]) (st' := [.ref x0, .int (0 : Int32), .ref a3, .int (0 : Int32), .ref a1]) rfl ?_
  obtain ⟨a5, e6, h⟩ := Option.bind_eq_some_iff.mp h
  refine E_gr k0 (by decide) rfl e6 ?_
  obtain ⟨v7, e8, h⟩ := Option.bind_eq_some_iff.mp h
  refine E_an e8 ?_
  obtain ⟨t9, e10, h⟩ := Option.bind_eq_some_iff.mp h
  refine E_cp e10 (Nat.le_of_ble_eq_true rfl) ?_
  refine E_ps 1 (pc' := 19) (l' := [some (.ref x0), some (.ref x1)]) (st' := [.ref x0]) rfl ?_
  obtain ⟨a11, e12, h⟩ := Option.bind_eq_some_iff.mp h
  refine E_gr k0 (by decide) rfl e12 ?_
  refine E_ps 1 (pc' := 23) (l' := [some (.ref x0), some (.ref x1)]) (st' := [.int (0 : Int32), .ref a11]) rfl ?_
  obtain ⟨z13, e14, h⟩ := Option.bind_eq_some_iff.mp h
  refine E_callV (vs := [.ref a11, .int (0 : Int32)]) (rest := []) rfl (by decide) rfl rfl (Nat.le_of_ble_eq_true rfl) (s286 e14) (by decide) ?_
  refine E_ps 1 (pc' := 27) (l' := [some (.ref x0), some (.ref x1)]) (st' := [.ref x0]) rfl ?_
  obtain ⟨a15, e16, h⟩ := Option.bind_eq_some_iff.mp h
  refine E_gr k0 (by decide) rfl e16 ?_
  refine E_ps 1 (pc' := 31) (l' := [some (.ref x0), some (.ref x1)]) (st' := [.int (0 : Int32), .ref a15]) rfl ?_
  obtain ⟨z17, e18, h⟩ := Option.bind_eq_some_iff.mp h
  refine E_callV (vs := [.ref a15, .int (0 : Int32)]) (rest := []) rfl (by decide) rfl rfl (Nat.le_of_ble_eq_true rfl) (s286 e18) (by decide) ?_
  refine E_ps 2 (pc' := 36) (l' := [some (.ref x0), some (.ref x1)]) (st' := [.int (0 : Int32), .ref x0]) rfl ?_
  obtain ⟨t19, e20, h⟩ := Option.bind_eq_some_iff.mp h
  refine E_pi k0 (by decide) rfl e20 ?_
  refine E_ps 2 (pc' := 41) (l' := [some (.ref x0), some (.ref x1)]) (st' := [.int (0 : Int32), .ref x0]) rfl ?_
  obtain ⟨t21, e22, h⟩ := Option.bind_eq_some_iff.mp h
  refine E_pi k0 (by decide) rfl e22 ?_
  cases h
  exact E_ret rfl (pg_mt_md (by decide)) rfl hr

-- 3: ThreePlates$Bench.become(LThreePlates$Bench;)V
def dn3 (o : xH × Option Value) (r : xS × Unit) : Prop := o = (hk_of r.1, none)
noncomputable def f3 (x0 : Nat) (x1 : Nat) (s : xS) : Option (xS × Unit) := ifg (oK x0 0 = true) <| ifg (oK x1 0 = true) <| (hk_R x1 0).bind fun a1 => (hk_R x0 0).bind fun a3 => (hk_R x0 0).bind fun a5 => (aN a5).bind fun v7 => (cpI s a1 (0 : Int32) a3 (0 : Int32) v7).bind fun t9 => (hk_R x1 1).bind fun a11 => (hk_R x0 1).bind fun a13 => (hk_R x0 1).bind fun a15 => (aN a15).bind fun v17 => (cpI t9 a11 (0 : Int32) a13 (0 : Int32) v17).bind fun t19 => (hk_R x1 2).bind fun a21 => (hk_R x0 2).bind fun a23 => (hk_R x0 2).bind fun a25 => (aN a25).bind fun v27 => (cpI t19 a21 (0 : Int32) a23 (0 : Int32) v27).bind fun t29 => (pI t29 x0 3 (t29.1 x1 3)).bind fun t31 => (pI t31 x0 4 (t31.1 x1 4)).bind fun t33 => (pI t33 x0 5 (t33.1 x1 5)).bind fun t35 => some (t35, ())
set_option maxRecDepth 20000 in
theorem s3 {sc : Option (Nat × (Nat → Int32))} {x0 : Nat} {x1 : Nat} {s : xS} {r : xS × Unit} (h : f3 x0 x1 s = some r) : Cl sc 1 3 [.ref x0, .ref x1] (hk_of s) (hk_of r.1, none) := by
  unfold f3 at h
  obtain ⟨k0, h⟩ := ifg_some h
  obtain ⟨k1, h⟩ := ifg_some h
  refine ⟨pg_md 3, [some (.ref x0), some (.ref x1)], pg_mt_md (by decide), (hk_rcv k0), rfl, ?_⟩
  generalize ho : ((hk_of r.1, none) : xH × Option Value) = o
  have hr : dn3 o r := ho.symm
  refine E_blk rfl ?_
  refine E_ps 1 (pc' := 1) (l' := [some (.ref x0), some (.ref x1)]) (st' := [.ref x1]) rfl ?_
  obtain ⟨a1, e2, h⟩ := Option.bind_eq_some_iff.mp h
  refine E_gr k1 (by decide) rfl e2 ?_
  refine E_ps 2 (pc' := 6) (l' := [some (.ref x0), some (.ref x1)]) (st' := [.ref x0, .int (0 : Int32), .ref a1]) rfl ?_
  obtain ⟨a3, e4, h⟩ := Option.bind_eq_some_iff.mp h
  refine E_gr k0 (by decide) rfl e4 ?_
  refine E_ps 2 (pc' := 11) (l' := [some (.ref x0), some (.ref x1)]) (st' := [.ref x0, .int (0 : Int32), .ref a3, .int (0 : Int32), .ref a1]) rfl ?_
  obtain ⟨a5, e6, h⟩ := Option.bind_eq_some_iff.mp h
  refine E_gr k0 (by decide) rfl e6 ?_
  obtain ⟨v7, e8, h⟩ := Option.bind_eq_some_iff.mp h
  refine E_an e8 ?_
  obtain ⟨t9, e10, h⟩ := Option.bind_eq_some_iff.mp h
  refine E_cp e10 (Nat.le_of_ble_eq_true rfl) ?_
  refine E_ps 1 (pc' := 19) (l' := [some (.ref x0), some (.ref x1)]) (st' := [.ref x1]) rfl ?_
  obtain ⟨a11, e12, h⟩ := Option.bind_eq_some_iff.mp h
  refine E_gr k1 (by decide) rfl e12 ?_
  refine E_ps 2 (pc' := 24) (l' := [some (.ref x0), some (.ref x1)]) (st' := [.ref x0, .int (0 : Int32), .ref a11]) rfl ?_
  obtain ⟨a13, e14, h⟩ := Option.bind_eq_some_iff.mp h
  refine E_gr k0 (by decide) rfl e14 ?_
  refine E_ps 2 (pc' := 29) (l' := [some (.ref x0), some (.ref x1)]) (st' := [.ref x0, .int (0 : Int32), .ref a13, .int (0 : Int32), .ref a11]) rfl ?_
  obtain ⟨a15, e16, h⟩ := Option.bind_eq_some_iff.mp h
  refine E_gr k0 (by decide) rfl e16 ?_
  obtain ⟨v17, e18, h⟩ := Option.bind_eq_some_iff.mp h
  refine E_an e18 ?_
  obtain ⟨t19, e20, h⟩ := Option.bind_eq_some_iff.mp h
  refine E_cp e20 (Nat.le_of_ble_eq_true rfl) ?_
  refine E_ps 1 (pc' := 37) (l' := [some (.ref x0), some (.ref x1)]) (st' := [.ref x1]) rfl ?_
  obtain ⟨a21, e22, h⟩ := Option.bind_eq_some_iff.mp h
  refine E_gr k1 (by decide) rfl e22 ?_
  refine E_ps 2 (pc' := 42) (l' := [some (.ref x0), some (.ref x1)]) (st' := [.ref x0, .int (0 : Int32), .ref a21]) rfl ?_
  obtain ⟨a23, e24, h⟩ := Option.bind_eq_some_iff.mp h
  refine E_gr k0 (by decide) rfl e24 ?_
  refine E_ps 2 (pc' := 47) (l' := [some (.ref x0), some (.ref x1)]) (st' := [.ref x0, .int (0 : Int32), .ref a23, .int (0 : Int32), .ref a21]) rfl ?_
  obtain ⟨a25, e26, h⟩ := Option.bind_eq_some_iff.mp h
  refine E_gr k0 (by decide) rfl e26 ?_
  obtain ⟨v27, e28, h⟩ := Option.bind_eq_some_iff.mp h
  refine E_an e28 ?_
  obtain ⟨t29, e30, h⟩ := Option.bind_eq_some_iff.mp h
  refine E_cp e30 (Nat.le_of_ble_eq_true rfl) ?_
  refine E_ps 2 (pc' := 56) (l' := [some (.ref x0), some (.ref x1)]) (st' := [.ref x1, .ref x0]) rfl ?_
  refine E_gi k1 (by decide) rfl ?_
  obtain ⟨t31, e32, h⟩ := Option.bind_eq_some_iff.mp h
  refine E_pi k0 (by decide) rfl e32 ?_
  refine E_ps 2 (pc' := 64) (l' := [some (.ref x0), some (.ref x1)]) (st' := [.ref x1, .ref x0]) rfl ?_
  refine E_gi k1 (by decide) rfl ?_
  obtain ⟨t33, e34, h⟩ := Option.bind_eq_some_iff.mp h
  refine E_pi k0 (by decide) rfl e34 ?_
  refine E_ps 2 (pc' := 72) (l' := [some (.ref x0), some (.ref x1)]) (st' := [.ref x1, .ref x0]) rfl ?_
  refine E_gi k1 (by decide) rfl ?_
  obtain ⟨t35, e36, h⟩ := Option.bind_eq_some_iff.mp h
  refine E_pi k0 (by decide) rfl e36 ?_
  cases h
  exact E_ret rfl (pg_mt_md (by decide)) rfl hr

-- 4: ThreePlates$Bench.seemsAt(I)I
def dn4 (o : xH × Option Value) (r : xS × Int32) : Prop := o = (hk_of r.1, some (.int r.2))
noncomputable def f4 (x0 : Nat) (x1 : Int32) (s : xS) : Option (xS × Int32) := ifg (oK x0 0 = true) <| (hk_R x0 0).bind fun a1 => (aI s a1 x1).bind fun v3 => (hk_R x0 1).bind fun a5 => (aI s a5 x1).bind fun v7 => (hk_R x0 2).bind fun a9 => (aI s a9 x1).bind fun v11 => some (s, ((v3 + v7) - v11))
set_option maxRecDepth 20000 in
theorem s4 {sc : Option (Nat × (Nat → Int32))} {x0 : Nat} {x1 : Int32} {s : xS} {r : xS × Int32} (h : f4 x0 x1 s = some r) : Cl sc 1 4 [.ref x0, .int x1] (hk_of s) (hk_of r.1, some (.int r.2)) := by
  unfold f4 at h
  obtain ⟨k0, h⟩ := ifg_some h
  refine ⟨pg_md 4, [some (.ref x0), some (.int x1)], pg_mt_md (by decide), (hk_rcv k0), rfl, ?_⟩
  generalize ho : ((hk_of r.1, some (Value.int r.2)) : xH × Option Value) = o
  have hr : dn4 o r := ho.symm
  refine E_blk rfl ?_
  refine E_ps 1 (pc' := 1) (l' := [some (.ref x0), some (.int x1)]) (st' := [.ref x0]) rfl ?_
  obtain ⟨a1, e2, h⟩ := Option.bind_eq_some_iff.mp h
  refine E_gr k0 (by decide) rfl e2 ?_
  refine E_ps 1 (pc' := 5) (l' := [some (.ref x0), some (.int x1)]) (st' := [.int x1, .ref a1]) rfl ?_
  obtain ⟨v3, e4, h⟩ := Option.bind_eq_some_iff.mp h
  refine E_ai e4 ?_
  refine E_ps 1 (pc' := 7) (l' := [some (.ref x0), some (.int x1)]) (st' := [.ref x0, .int v3]) rfl ?_
  obtain ⟨a5, e6, h⟩ := Option.bind_eq_some_iff.mp h
  refine E_gr k0 (by decide) rfl e6 ?_
  refine E_ps 1 (pc' := 11) (l' := [some (.ref x0), some (.int x1)]) (st' := [.int x1, .ref a5, .int v3]) rfl ?_
  obtain ⟨v7, e8, h⟩ := Option.bind_eq_some_iff.mp h
  refine E_ai e8 ?_
  refine E_ps 2 (pc' := 14) (l' := [some (.ref x0), some (.int x1)]) (st' := [.ref x0, .int (v3 + v7)]) rfl ?_
  obtain ⟨a9, e10, h⟩ := Option.bind_eq_some_iff.mp h
  refine E_gr k0 (by decide) rfl e10 ?_
  refine E_ps 1 (pc' := 18) (l' := [some (.ref x0), some (.int x1)]) (st' := [.int x1, .ref a9, .int (v3 + v7)]) rfl ?_
  obtain ⟨v11, e12, h⟩ := Option.bind_eq_some_iff.mp h
  refine E_ai e12 ?_
  refine E_ps 1 (pc' := 20) (l' := [some (.ref x0), some (.int x1)]) (st' := [.int ((v3 + v7) - v11)]) rfl ?_
  cases h
  exact E_ret rfl (pg_mt_md (by decide)) rfl hr

-- 5: ThreePlates$Bench.copySeems(II[I)V
def dn5 (o : xH × Option Value) (r : xS × Unit) : Prop := o = (hk_of r.1, none)
def dn5_3 (sc : Option (Nat × (Nat → Int32))) (x0 : Nat) (x1 : Int32) (x2 : Int32) (x3 : Nat) (o : xH × Option Value) (r : ((Int32 × xS) ⊕ (xS × Unit))) : Prop := match r with
  | .inl q => Ev sc 2 5 [] 3 [some (.ref x0), some (.int x1), some (.int x2), some (.ref x3), some (.int q.1)] [] (hk_of q.2) o
  | .inr r => dn5 o r
noncomputable def f5_3 (x0 : Nat) (x1 : Int32) (x2 : Int32) (x3 : Nat) (x4 : Int32) (s : xS) : Option ((Int32 × xS) ⊕ (xS × Unit)) := if x2 ≤ x4 then (Option.map Sum.inr (some (s, ()))) else ((f4 x0 ((x1 * (25 : Int32)) + x4) s).bind fun z2 => (wI z2.1 x3 x4 z2.2).bind fun t4 => some (Sum.inl ((x4 + (1 : Int32)), t4)))
set_option maxRecDepth 20000 in
theorem s5_3 {sc : Option (Nat × (Nat → Int32))} {x0 : Nat} {x1 : Int32} {x2 : Int32} {x3 : Nat} {x4 : Int32} {s : xS} {o : xH × Option Value} {r : ((Int32 × xS) ⊕ (xS × Unit))} (k0 : oK x0 0 = true) (h : f5_3 x0 x1 x2 x3 x4 s = some r) (hr : dn5_3 sc x0 x1 x2 x3 o r) : Ev sc 2 5 [] 3 [some (.ref x0), some (.int x1), some (.int x2), some (.ref x3), some (.int x4)] [] (hk_of s) o := by
  unfold f5_3 at h
  refine E_blk rfl ?_
  refine E_ps 2 (pc' := 6) (l' := [some (.ref x0), some (.int x1), some (.int x2), some (.ref x3), some (.int x4)]) (st' := [.int x2, .int x4]) rfl ?_
  by_cases c1 : x2 ≤ x4
  · rw [if_pos c1] at h
    refine E_jt rfl rfl c1 ?_
    obtain ⟨r, h, hr⟩ := lf_some (Dn := dn5_3 sc x0 x1 x2 x3 o) h hr
    refine E_blk rfl ?_
    cases h
    exact E_ret rfl (pg_mt_md (by decide)) rfl hr
  · rw [if_neg c1] at h
    refine E_jf rfl rfl c1 ?_
    refine E_blk rfl ?_
    refine E_ps 8 (pc' := 20) (l' := [some (.ref x0), some (.int x1), some (.int x2), some (.ref x3), some (.int x4)]) (st' := [.int ((x1 * (25 : Int32)) + x4), .ref x0, .int x4, .ref x3]) rfl ?_
    obtain ⟨z2, e3, h⟩ := Option.bind_eq_some_iff.mp h
    refine E_callI (vs := [.ref x0, .int ((x1 * (25 : Int32)) + x4)]) (rest := [.int x4, .ref x3]) rfl (by decide) rfl rfl (Nat.le_of_ble_eq_true rfl) (s4 e3) (by decide) ?_
    obtain ⟨t4, e5, h⟩ := Option.bind_eq_some_iff.mp h
    refine E_wi e5 ?_
    refine E_ps 1 (pc' := 27) (l' := [some (.ref x0), some (.int x1), some (.int x2), some (.ref x3), some (.int (x4 + (1 : Int32)))]) (st' := []) rfl ?_
    refine E_j rfl rfl ?_
    cases h
    exact E_wk (l' := [some (.ref x0), some (.int x1), some (.int x2), some (.ref x3), some (.int (x4 + (1 : Int32)))]) ⟨rfl, rfl, rfl, rfl, rfl, trivial⟩ hr
theorem s5_3_w {sc : Option (Nat × (Nat → Int32))} {x0 : Nat} {x1 : Int32} {x2 : Int32} {x3 : Nat} {x4 : Int32} {s : xS} {o : xH × Option Value} {r : (xS × Unit)} (k0 : oK x0 0 = true) (h : whl (fun q : (Int32 × xS) => f5_3 x0 x1 x2 x3 q.1 q.2) (x4, s) = some r) (hr : dn5 o r) : Ev sc 2 5 [] 3 [some (.ref x0), some (.int x1), some (.int x2), some (.ref x3), some (.int x4)] [] (hk_of s) o := by
  refine whl_snd (E := fun q : (Int32 × xS) => Ev sc 2 5 [] 3 [some (.ref x0), some (.int x1), some (.int x2), some (.ref x3), some (.int q.1)] [] (hk_of q.2) o) (P := fun r => dn5 o r) (fun q r h hr => ?_) h hr
  exact s5_3 k0 h (by cases r <;> exact hr)
noncomputable def f5 (x0 : Nat) (x1 : Int32) (x2 : Int32) (x3 : Nat) (s : xS) : Option (xS × Unit) := ifg (oK x0 0 = true) <| whl (fun q : (Int32 × xS) => f5_3 x0 x1 x2 x3 q.1 q.2) ((0 : Int32), s)
set_option maxRecDepth 20000 in
theorem s5 {sc : Option (Nat × (Nat → Int32))} {x0 : Nat} {x1 : Int32} {x2 : Int32} {x3 : Nat} {s : xS} {r : xS × Unit} (h : f5 x0 x1 x2 x3 s = some r) : Cl sc 2 5 [.ref x0, .int x1, .int x2, .ref x3] (hk_of s) (hk_of r.1, none) := by
  unfold f5 at h
  obtain ⟨k0, h⟩ := ifg_some h
  refine ⟨pg_md 5, [some (.ref x0), some (.int x1), some (.int x2), some (.ref x3), none], pg_mt_md (by decide), (hk_rcv k0), rfl, ?_⟩
  generalize ho : ((hk_of r.1, none) : xH × Option Value) = o
  have hr : dn5 o r := ho.symm
  refine E_blk rfl ?_
  refine E_ps 2 (pc' := 3) (l' := [some (.ref x0), some (.int x1), some (.int x2), some (.ref x3), some (.int (0 : Int32))]) (st' := []) rfl ?_
  exact E_wk (l' := [some (.ref x0), some (.int x1), some (.int x2), some (.ref x3), some (.int (0 : Int32))]) ⟨rfl, rfl, rfl, rfl, rfl, trivial⟩ (s5_3_w k0 h hr)

-- 7: ThreePlates$Bench.warmOne(II)V
def dn7 (o : xH × Option Value) (r : xS × Unit) : Prop := o = (hk_of r.1, none)
noncomputable def f7 (x0 : Nat) (x1 : Int32) (x2 : Int32) (s : xS) : Option (xS × Unit) := ifg (oK x0 0 = true) <| (hk_R x0 1).bind fun a1 => (hk_R x0 1).bind fun a3 => (aI s a3 x1).bind fun v5 => (wI s a1 x1 (if (v5 + x2) < (99 : Int32) then (v5 + x2) else (99 : Int32))).bind fun t7 => some (t7, ())
set_option maxRecDepth 20000 in
theorem s7 {sc : Option (Nat × (Nat → Int32))} {x0 : Nat} {x1 : Int32} {x2 : Int32} {s : xS} {r : xS × Unit} (h : f7 x0 x1 x2 s = some r) : Cl sc 1 7 [.ref x0, .int x1, .int x2] (hk_of s) (hk_of r.1, none) := by
  unfold f7 at h
  obtain ⟨k0, h⟩ := ifg_some h
  refine ⟨pg_md 7, [some (.ref x0), some (.int x1), some (.int x2)], pg_mt_md (by decide), (hk_rcv k0), rfl, ?_⟩
  generalize ho : ((hk_of r.1, none) : xH × Option Value) = o
  have hr : dn7 o r := ho.symm
  refine E_blk rfl ?_
  refine E_ps 1 (pc' := 1) (l' := [some (.ref x0), some (.int x1), some (.int x2)]) (st' := [.ref x0]) rfl ?_
  obtain ⟨a1, e2, h⟩ := Option.bind_eq_some_iff.mp h
  refine E_gr k0 (by decide) rfl e2 ?_
  refine E_ps 3 (pc' := 8) (l' := [some (.ref x0), some (.int x1), some (.int x2)]) (st' := [.ref x0, .int (99 : Int32), .int x1, .ref a1]) rfl ?_
  obtain ⟨a3, e4, h⟩ := Option.bind_eq_some_iff.mp h
  refine E_gr k0 (by decide) rfl e4 ?_
  refine E_ps 1 (pc' := 12) (l' := [some (.ref x0), some (.int x1), some (.int x2)]) (st' := [.int x1, .ref a3, .int (99 : Int32), .int x1, .ref a1]) rfl ?_
  obtain ⟨v5, e6, h⟩ := Option.bind_eq_some_iff.mp h
  refine E_ai e6 ?_
  refine E_ps 2 (pc' := 15) (l' := [some (.ref x0), some (.int x1), some (.int x2)]) (st' := [.int (v5 + x2), .int (99 : Int32), .int x1, .ref a1]) rfl ?_
  refine E_ma (st' := [.int (if (v5 + x2) < (99 : Int32) then (v5 + x2) else (99 : Int32)), .int x1, .ref a1]) rfl (by decide) rfl ?_
  obtain ⟨t7, e8, h⟩ := Option.bind_eq_some_iff.mp h
  refine E_wi e8 ?_
  cases h
  exact E_ret rfl (pg_mt_md (by decide)) rfl hr

-- 6: ThreePlates$Bench.warmAround(IIII)V
def dn6 (o : xH × Option Value) (r : xS × Unit) : Prop := o = (hk_of r.1, none)
noncomputable def f6_101  (s : xS) : Option (xS × Unit) := some (s, ())
set_option maxRecDepth 20000 in
theorem s6_101 {sc : Option (Nat × (Nat → Int32))}  {s : xS} {o : xH × Option Value} {r : (xS × Unit)}  (h : f6_101  s = some r) (hr : dn6 o r) : Ev sc 2 6 [] 101 [none, none, none, none, none, none, none, none] [] (hk_of s) o := by
  unfold f6_101 at h
  refine E_blk rfl ?_
  cases h
  exact E_ret rfl (pg_mt_md (by decide)) rfl hr
noncomputable def f6_80 (x0 : Nat) (x3 : Int32) (x4 : Int32) (x6 : Int32) (x7 : Int32) (s : xS) : Option (xS × Unit) := if (x4 - (1 : Int32)) ≤ x6 then (f6_101  s) else ((f7 x0 (x7 + x4) (x3 / (2 : Int32)) s).bind fun z2 => f6_101  z2.1)
set_option maxRecDepth 20000 in
theorem s6_80 {sc : Option (Nat × (Nat → Int32))} {x0 : Nat} {x3 : Int32} {x4 : Int32} {x6 : Int32} {x7 : Int32} {s : xS} {o : xH × Option Value} {r : (xS × Unit)} (k0 : oK x0 0 = true) (h : f6_80 x0 x3 x4 x6 x7 s = some r) (hr : dn6 o r) : Ev sc 2 6 [] 80 [some (.ref x0), none, none, some (.int x3), some (.int x4), none, some (.int x6), some (.int x7)] [] (hk_of s) o := by
  unfold f6_80 at h
  refine E_blk rfl ?_
  refine E_ps 4 (pc' := 86) (l' := [some (.ref x0), none, none, some (.int x3), some (.int x4), none, some (.int x6), some (.int x7)]) (st' := [.int (x4 - (1 : Int32)), .int x6]) rfl ?_
  by_cases c1 : (x4 - (1 : Int32)) ≤ x6
  · rw [if_pos c1] at h
    refine E_jt rfl rfl c1 ?_
    exact E_wk (l' := [none, none, none, none, none, none, none, none]) trivial (s6_101  h hr)
  · rw [if_neg c1] at h
    refine E_jf rfl rfl c1 ?_
    refine E_blk rfl ?_
    refine E_ps 6 (pc' := 97) (l' := [some (.ref x0), none, none, some (.int x3), some (.int x4), none, some (.int x6), some (.int x7)]) (st' := [.int (2 : Int32), .int x3, .int (x7 + x4), .ref x0]) rfl ?_
    refine E_idiv (by decide) ?_
    obtain ⟨z2, e3, h⟩ := Option.bind_eq_some_iff.mp h
    refine E_callV (vs := [.ref x0, .int (x7 + x4), .int (x3 / (2 : Int32))]) (rest := []) rfl (by decide) rfl rfl (Nat.le_of_ble_eq_true rfl) (s7 e3) (by decide) ?_
    exact E_wk (l' := [none, none, none, none, none, none, none, none]) trivial (s6_101  h hr)
noncomputable def f6_63 (x0 : Nat) (x3 : Int32) (x4 : Int32) (x6 : Int32) (x7 : Int32) (s : xS) : Option (xS × Unit) := if x6 ≤ 0 then (f6_80 x0 x3 x4 x6 x7 s) else ((f7 x0 (x7 - x4) (x3 / (2 : Int32)) s).bind fun z2 => f6_80 x0 x3 x4 x6 x7 z2.1)
set_option maxRecDepth 20000 in
theorem s6_63 {sc : Option (Nat × (Nat → Int32))} {x0 : Nat} {x3 : Int32} {x4 : Int32} {x6 : Int32} {x7 : Int32} {s : xS} {o : xH × Option Value} {r : (xS × Unit)} (k0 : oK x0 0 = true) (h : f6_63 x0 x3 x4 x6 x7 s = some r) (hr : dn6 o r) : Ev sc 2 6 [] 63 [some (.ref x0), none, none, some (.int x3), some (.int x4), none, some (.int x6), some (.int x7)] [] (hk_of s) o := by
  unfold f6_63 at h
  refine E_blk rfl ?_
  refine E_ps 1 (pc' := 65) (l' := [some (.ref x0), none, none, some (.int x3), some (.int x4), none, some (.int x6), some (.int x7)]) (st' := [.int x6]) rfl ?_
  by_cases c1 : x6 ≤ 0
  · rw [if_pos c1] at h
    refine E_jt rfl rfl c1 ?_
    exact E_wk (l' := [some (.ref x0), none, none, some (.int x3), some (.int x4), none, some (.int x6), some (.int x7)]) ⟨rfl, rfl, rfl, rfl, rfl, trivial⟩ (s6_80 k0 h hr)
  · rw [if_neg c1] at h
    refine E_jf rfl rfl c1 ?_
    refine E_blk rfl ?_
    refine E_ps 6 (pc' := 76) (l' := [some (.ref x0), none, none, some (.int x3), some (.int x4), none, some (.int x6), some (.int x7)]) (st' := [.int (2 : Int32), .int x3, .int (x7 - x4), .ref x0]) rfl ?_
    refine E_idiv (by decide) ?_
    obtain ⟨z2, e3, h⟩ := Option.bind_eq_some_iff.mp h
    refine E_callV (vs := [.ref x0, .int (x7 - x4), .int (x3 / (2 : Int32))]) (rest := []) rfl (by decide) rfl rfl (Nat.le_of_ble_eq_true rfl) (s7 e3) (by decide) ?_
    exact E_wk (l' := [some (.ref x0), none, none, some (.int x3), some (.int x4), none, some (.int x6), some (.int x7)]) ⟨rfl, rfl, rfl, rfl, rfl, trivial⟩ (s6_80 k0 h hr)
noncomputable def f6_43 (x0 : Nat) (x3 : Int32) (x4 : Int32) (x5 : Int32) (x6 : Int32) (x7 : Int32) (s : xS) : Option (xS × Unit) := if (x4 - (1 : Int32)) ≤ x5 then (f6_63 x0 x3 x4 x6 x7 s) else ((f7 x0 (x7 + (1 : Int32)) (x3 / (2 : Int32)) s).bind fun z2 => f6_63 x0 x3 x4 x6 x7 z2.1)
set_option maxRecDepth 20000 in
theorem s6_43 {sc : Option (Nat × (Nat → Int32))} {x0 : Nat} {x3 : Int32} {x4 : Int32} {x5 : Int32} {x6 : Int32} {x7 : Int32} {s : xS} {o : xH × Option Value} {r : (xS × Unit)} (k0 : oK x0 0 = true) (h : f6_43 x0 x3 x4 x5 x6 x7 s = some r) (hr : dn6 o r) : Ev sc 2 6 [] 43 [some (.ref x0), none, none, some (.int x3), some (.int x4), some (.int x5), some (.int x6), some (.int x7)] [] (hk_of s) o := by
  unfold f6_43 at h
  refine E_blk rfl ?_
  refine E_ps 4 (pc' := 49) (l' := [some (.ref x0), none, none, some (.int x3), some (.int x4), some (.int x5), some (.int x6), some (.int x7)]) (st' := [.int (x4 - (1 : Int32)), .int x5]) rfl ?_
  by_cases c1 : (x4 - (1 : Int32)) ≤ x5
  · rw [if_pos c1] at h
    refine E_jt rfl rfl c1 ?_
    exact E_wk (l' := [some (.ref x0), none, none, some (.int x3), some (.int x4), none, some (.int x6), some (.int x7)]) ⟨rfl, rfl, rfl, rfl, rfl, trivial⟩ (s6_63 k0 h hr)
  · rw [if_neg c1] at h
    refine E_jf rfl rfl c1 ?_
    refine E_blk rfl ?_
    refine E_ps 6 (pc' := 59) (l' := [some (.ref x0), none, none, some (.int x3), some (.int x4), some (.int x5), some (.int x6), some (.int x7)]) (st' := [.int (2 : Int32), .int x3, .int (x7 + (1 : Int32)), .ref x0]) rfl ?_
    refine E_idiv (by decide) ?_
    obtain ⟨z2, e3, h⟩ := Option.bind_eq_some_iff.mp h
    refine E_callV (vs := [.ref x0, .int (x7 + (1 : Int32)), .int (x3 / (2 : Int32))]) (rest := []) rfl (by decide) rfl rfl (Nat.le_of_ble_eq_true rfl) (s7 e3) (by decide) ?_
    exact E_wk (l' := [some (.ref x0), none, none, some (.int x3), some (.int x4), none, some (.int x6), some (.int x7)]) ⟨rfl, rfl, rfl, rfl, rfl, trivial⟩ (s6_63 k0 h hr)
noncomputable def f6 (x0 : Nat) (x1 : Int32) (x2 : Int32) (x3 : Int32) (x4 : Int32) (s : xS) : Option (xS × Unit) := ifg (oK x0 0 = true) <| ifg (¬ x4 = 0) <| ifg (¬ x4 = 0) <| (f7 x0 ((x1 * (25 : Int32)) + x2) x3 s).bind fun z3 => if (irm x2 x4) ≤ 0 then (f6_43 x0 x3 x4 (irm x2 x4) (x2 / x4) ((x1 * (25 : Int32)) + x2) z3.1) else ((f7 x0 (((x1 * (25 : Int32)) + x2) - (1 : Int32)) (x3 / (2 : Int32)) z3.1).bind fun z6 => f6_43 x0 x3 x4 (irm x2 x4) (x2 / x4) ((x1 * (25 : Int32)) + x2) z6.1)
set_option maxRecDepth 20000 in
theorem s6 {sc : Option (Nat × (Nat → Int32))} {x0 : Nat} {x1 : Int32} {x2 : Int32} {x3 : Int32} {x4 : Int32} {s : xS} {r : xS × Unit} (h : f6 x0 x1 x2 x3 x4 s = some r) : Cl sc 2 6 [.ref x0, .int x1, .int x2, .int x3, .int x4] (hk_of s) (hk_of r.1, none) := by
  unfold f6 at h
  obtain ⟨k0, h⟩ := ifg_some h
  refine ⟨pg_md 6, [some (.ref x0), some (.int x1), some (.int x2), some (.int x3), some (.int x4), none, none, none], pg_mt_md (by decide), (hk_rcv k0), rfl, ?_⟩
  generalize ho : ((hk_of r.1, none) : xH × Option Value) = o
  have hr : dn6 o r := ho.symm
  refine E_blk rfl ?_
  refine E_ps 2 (pc' := 3) (l' := [some (.ref x0), some (.int x1), some (.int x2), some (.int x3), some (.int x4), none, none, none]) (st' := [.int x4, .int x2]) rfl ?_
  obtain ⟨g1, h⟩ := ifg_some h
  refine E_irem g1 ?_
  refine E_ps 3 (pc' := 9) (l' := [some (.ref x0), some (.int x1), some (.int x2), some (.int x3), some (.int x4), some (.int (irm x2 x4)), none, none]) (st' := [.int x4, .int x2]) rfl ?_
  obtain ⟨g2, h⟩ := ifg_some h
  refine E_idiv g2 ?_
  refine E_ps 10 (pc' := 24) (l' := [some (.ref x0), some (.int x1), some (.int x2), some (.int x3), some (.int x4), some (.int (irm x2 x4)), some (.int (x2 / x4)), some (.int ((x1 * (25 : Int32)) + x2))]) (st' := [.int x3, .int ((x1 * (25 : Int32)) + x2), .ref x0]) rfl ?_
  obtain ⟨z3, e4, h⟩ := Option.bind_eq_some_iff.mp h
  refine E_callV (vs := [.ref x0, .int ((x1 * (25 : Int32)) + x2), .int x3]) (rest := []) rfl (by decide) rfl rfl (Nat.le_of_ble_eq_true rfl) (s7 e4) (by decide) ?_
  refine E_ps 1 (pc' := 29) (l' := [some (.ref x0), some (.int x1), some (.int x2), some (.int x3), some (.int x4), some (.int (irm x2 x4)), some (.int (x2 / x4)), some (.int ((x1 * (25 : Int32)) + x2))]) (st' := [.int (irm x2 x4)]) rfl ?_
  by_cases c5 : (irm x2 x4) ≤ 0
  · rw [if_pos c5] at h
    refine E_jt rfl rfl c5 ?_
    exact E_wk (l' := [some (.ref x0), none, none, some (.int x3), some (.int x4), some (.int (irm x2 x4)), some (.int (x2 / x4)), some (.int ((x1 * (25 : Int32)) + x2))]) ⟨rfl, rfl, rfl, rfl, rfl, rfl, trivial⟩ (s6_43 k0 h hr)
  · rw [if_neg c5] at h
    refine E_jf rfl rfl c5 ?_
    refine E_blk rfl ?_
    refine E_ps 6 (pc' := 39) (l' := [some (.ref x0), some (.int x1), some (.int x2), some (.int x3), some (.int x4), some (.int (irm x2 x4)), some (.int (x2 / x4)), some (.int ((x1 * (25 : Int32)) + x2))]) (st' := [.int (2 : Int32), .int x3, .int (((x1 * (25 : Int32)) + x2) - (1 : Int32)), .ref x0]) rfl ?_
    refine E_idiv (by decide) ?_
    obtain ⟨z6, e7, h⟩ := Option.bind_eq_some_iff.mp h
    refine E_callV (vs := [.ref x0, .int (((x1 * (25 : Int32)) + x2) - (1 : Int32)), .int (x3 / (2 : Int32))]) (rest := []) rfl (by decide) rfl rfl (Nat.le_of_ble_eq_true rfl) (s7 e7) (by decide) ?_
    exact E_wk (l' := [some (.ref x0), none, none, some (.int x3), some (.int x4), some (.int (irm x2 x4)), some (.int (x2 / x4)), some (.int ((x1 * (25 : Int32)) + x2))]) ⟨rfl, rfl, rfl, rfl, rfl, rfl, trivial⟩ (s6_43 k0 h hr)

-- 8: ThreePlates$Bench.cool(I)V
def dn8 (o : xH × Option Value) (r : xS × Unit) : Prop := o = (hk_of r.1, none)
def dn8_2 (sc : Option (Nat × (Nat → Int32))) (x0 : Nat) (x1 : Int32) (o : xH × Option Value) (r : ((Int32 × xS) ⊕ (xS × Unit))) : Prop := match r with
  | .inl q => Ev sc 1 8 [] 2 [some (.ref x0), some (.int x1), some (.int q.1)] [] (hk_of q.2) o
  | .inr r => dn8 o r
noncomputable def f8_2 (x0 : Nat) (x1 : Int32) (x2 : Int32) (s : xS) : Option ((Int32 × xS) ⊕ (xS × Unit)) := (hk_R x0 1).bind fun a1 => (aN a1).bind fun v3 => if v3 ≤ x2 then (Option.map Sum.inr (some (s, ()))) else ((hk_R x0 1).bind fun a6 => (hk_R x0 1).bind fun a8 => (aI s a8 x2).bind fun v10 => (wI s a6 x2 (if (0 : Int32) < (v10 - x1) then (v10 - x1) else (0 : Int32))).bind fun t12 => some (Sum.inl ((x2 + (1 : Int32)), t12)))
set_option maxRecDepth 20000 in
theorem s8_2 {sc : Option (Nat × (Nat → Int32))} {x0 : Nat} {x1 : Int32} {x2 : Int32} {s : xS} {o : xH × Option Value} {r : ((Int32 × xS) ⊕ (xS × Unit))} (k0 : oK x0 0 = true) (h : f8_2 x0 x1 x2 s = some r) (hr : dn8_2 sc x0 x1 o r) : Ev sc 1 8 [] 2 [some (.ref x0), some (.int x1), some (.int x2)] [] (hk_of s) o := by
  unfold f8_2 at h
  refine E_blk rfl ?_
  refine E_ps 2 (pc' := 4) (l' := [some (.ref x0), some (.int x1), some (.int x2)]) (st' := [.ref x0, .int x2]) rfl ?_
  obtain ⟨a1, e2, h⟩ := Option.bind_eq_some_iff.mp h
  refine E_gr k0 (by decide) rfl e2 ?_
  obtain ⟨v3, e4, h⟩ := Option.bind_eq_some_iff.mp h
  refine E_an e4 ?_
  by_cases c5 : v3 ≤ x2
  · rw [if_pos c5] at h
    refine E_jt rfl rfl c5 ?_
    obtain ⟨r, h, hr⟩ := lf_some (Dn := dn8_2 sc x0 x1 o) h hr
    refine E_blk rfl ?_
    cases h
    exact E_ret rfl (pg_mt_md (by decide)) rfl hr
  · rw [if_neg c5] at h
    refine E_jf rfl rfl c5 ?_
    refine E_blk rfl ?_
    refine E_ps 1 (pc' := 12) (l' := [some (.ref x0), some (.int x1), some (.int x2)]) (st' := [.ref x0]) rfl ?_
    obtain ⟨a6, e7, h⟩ := Option.bind_eq_some_iff.mp h
    refine E_gr k0 (by decide) rfl e7 ?_
    refine E_ps 3 (pc' := 18) (l' := [some (.ref x0), some (.int x1), some (.int x2)]) (st' := [.ref x0, .int (0 : Int32), .int x2, .ref a6]) rfl ?_
    obtain ⟨a8, e9, h⟩ := Option.bind_eq_some_iff.mp h
    refine E_gr k0 (by decide) rfl e9 ?_
    refine E_ps 1 (pc' := 22) (l' := [some (.ref x0), some (.int x1), some (.int x2)]) (st' := [.int x2, .ref a8, .int (0 : Int32), .int x2, .ref a6]) rfl ?_
    obtain ⟨v10, e11, h⟩ := Option.bind_eq_some_iff.mp h
    refine E_ai e11 ?_
    refine E_ps 2 (pc' := 25) (l' := [some (.ref x0), some (.int x1), some (.int x2)]) (st' := [.int (v10 - x1), .int (0 : Int32), .int x2, .ref a6]) rfl ?_
    refine E_ma (st' := [.int (if (0 : Int32) < (v10 - x1) then (v10 - x1) else (0 : Int32)), .int x2, .ref a6]) rfl (by decide) rfl ?_
    obtain ⟨t12, e13, h⟩ := Option.bind_eq_some_iff.mp h
    refine E_wi e13 ?_
    refine E_ps 1 (pc' := 32) (l' := [some (.ref x0), some (.int x1), some (.int (x2 + (1 : Int32)))]) (st' := []) rfl ?_
    refine E_j rfl rfl ?_
    cases h
    exact E_wk (l' := [some (.ref x0), some (.int x1), some (.int (x2 + (1 : Int32)))]) ⟨rfl, rfl, rfl, trivial⟩ hr
theorem s8_2_w {sc : Option (Nat × (Nat → Int32))} {x0 : Nat} {x1 : Int32} {x2 : Int32} {s : xS} {o : xH × Option Value} {r : (xS × Unit)} (k0 : oK x0 0 = true) (h : whl (fun q : (Int32 × xS) => f8_2 x0 x1 q.1 q.2) (x2, s) = some r) (hr : dn8 o r) : Ev sc 1 8 [] 2 [some (.ref x0), some (.int x1), some (.int x2)] [] (hk_of s) o := by
  refine whl_snd (E := fun q : (Int32 × xS) => Ev sc 1 8 [] 2 [some (.ref x0), some (.int x1), some (.int q.1)] [] (hk_of q.2) o) (P := fun r => dn8 o r) (fun q r h hr => ?_) h hr
  exact s8_2 k0 h (by cases r <;> exact hr)
noncomputable def f8 (x0 : Nat) (x1 : Int32) (s : xS) : Option (xS × Unit) := ifg (oK x0 0 = true) <| whl (fun q : (Int32 × xS) => f8_2 x0 x1 q.1 q.2) ((0 : Int32), s)
set_option maxRecDepth 20000 in
theorem s8 {sc : Option (Nat × (Nat → Int32))} {x0 : Nat} {x1 : Int32} {s : xS} {r : xS × Unit} (h : f8 x0 x1 s = some r) : Cl sc 1 8 [.ref x0, .int x1] (hk_of s) (hk_of r.1, none) := by
  unfold f8 at h
  obtain ⟨k0, h⟩ := ifg_some h
  refine ⟨pg_md 8, [some (.ref x0), some (.int x1), none], pg_mt_md (by decide), (hk_rcv k0), rfl, ?_⟩
  generalize ho : ((hk_of r.1, none) : xH × Option Value) = o
  have hr : dn8 o r := ho.symm
  refine E_blk rfl ?_
  refine E_ps 2 (pc' := 2) (l' := [some (.ref x0), some (.int x1), some (.int (0 : Int32))]) (st' := []) rfl ?_
  exact E_wk (l' := [some (.ref x0), some (.int x1), some (.int (0 : Int32))]) ⟨rfl, rfl, rfl, trivial⟩ (s8_2_w k0 h hr)

-- 10: ThreePlates$Bench.takeFrom(II)V
def dn10 (o : xH × Option Value) (r : xS × Unit) : Prop := o = (hk_of r.1, none)
noncomputable def f10 (x0 : Nat) (x1 : Int32) (x2 : Int32) (s : xS) : Option (xS × Unit) := ifg (oK x0 0 = true) <| (hk_R x0 0).bind fun a1 => (aI s a1 x1).bind fun v3 => if (-999 : Int32) ≤ v3 then ((hk_R x0 0).bind fun a6 => (aI s a6 x1).bind fun v8 => (wI s a6 x1 (v8 - x2)).bind fun t10 => (pI t10 x0 4 ((t10.1 x0 4) + x2)).bind fun t12 => some (t12, ())) else (some (s, ()))
set_option maxRecDepth 20000 in
theorem s10 {sc : Option (Nat × (Nat → Int32))} {x0 : Nat} {x1 : Int32} {x2 : Int32} {s : xS} {r : xS × Unit} (h : f10 x0 x1 x2 s = some r) : Cl sc 1 10 [.ref x0, .int x1, .int x2] (hk_of s) (hk_of r.1, none) := by
  unfold f10 at h
  obtain ⟨k0, h⟩ := ifg_some h
  refine ⟨pg_md 10, [some (.ref x0), some (.int x1), some (.int x2)], pg_mt_md (by decide), (hk_rcv k0), rfl, ?_⟩
  generalize ho : ((hk_of r.1, none) : xH × Option Value) = o
  have hr : dn10 o r := ho.symm
  refine E_blk rfl ?_
  refine E_ps 1 (pc' := 1) (l' := [some (.ref x0), some (.int x1), some (.int x2)]) (st' := [.ref x0]) rfl ?_
  obtain ⟨a1, e2, h⟩ := Option.bind_eq_some_iff.mp h
  refine E_gr k0 (by decide) rfl e2 ?_
  refine E_ps 1 (pc' := 5) (l' := [some (.ref x0), some (.int x1), some (.int x2)]) (st' := [.int x1, .ref a1]) rfl ?_
  obtain ⟨v3, e4, h⟩ := Option.bind_eq_some_iff.mp h
  refine E_ai e4 ?_
  refine E_ps 1 (pc' := 9) (l' := [some (.ref x0), some (.int x1), some (.int x2)]) (st' := [.int (-999 : Int32), .int v3]) rfl ?_
  by_cases c5 : (-999 : Int32) ≤ v3
  · rw [if_pos c5] at h
    refine E_jt rfl rfl c5 ?_
    refine E_blk rfl ?_
    refine E_ps 1 (pc' := 14) (l' := [some (.ref x0), some (.int x1), some (.int x2)]) (st' := [.ref x0]) rfl ?_
    obtain ⟨a6, e7, h⟩ := Option.bind_eq_some_iff.mp h
    refine E_gr k0 (by decide) rfl e7 ?_
    refine E_ps 2 (pc' := 19) (l' := [some (.ref x0), some (.int x1), some (.int x2)]) (st' := [.int x1, .ref a6, .int x1, .ref a6]) rfl ?_
    obtain ⟨v8, e9, h⟩ := Option.bind_eq_some_iff.mp h
    refine E_ai e9 ?_
    refine E_ps 2 (pc' := 22) (l' := [some (.ref x0), some (.int x1), some (.int x2)]) (st' := [.int (v8 - x2), .int x1, .ref a6]) rfl ?_
    obtain ⟨t10, e11, h⟩ := Option.bind_eq_some_iff.mp h
    refine E_wi e11 ?_
    refine E_ps 2 (pc' := 25) (l' := [some (.ref x0), some (.int x1), some (.int x2)]) (st' := [.ref x0, .ref x0]) rfl ?_
    refine E_gi k0 (by decide) rfl ?_
    refine E_ps 2 (pc' := 30) (l' := [some (.ref x0), some (.int x1), some (.int x2)]) (st' := [.int ((t10.1 x0 4) + x2), .ref x0]) rfl ?_
    obtain ⟨t12, e13, h⟩ := Option.bind_eq_some_iff.mp h
    refine E_pi k0 (by decide) rfl e13 ?_
    cases h
    exact E_ret rfl (pg_mt_md (by decide)) rfl hr
  · rw [if_neg c5] at h
    refine E_jf rfl rfl c5 ?_
    refine E_blk rfl ?_
    cases h
    exact E_ret rfl (pg_mt_md (by decide)) rfl hr

-- 11: ThreePlates$Bench.draw()I
def dn11 (o : xH × Option Value) (r : xS × Int32) : Prop := o = (hk_of r.1, some (.int r.2))
noncomputable def f11 (x0 : Nat) (s : xS) : Option (xS × Int32) := ifg (oK x0 0 = true) <| (pI s x0 5 (((s.1 x0 5) * (1103515245 : Int32)) + (12345 : Int32))).bind fun t1 => some (t1, (irm (xm_ush (t1.1 x0 5) (16 : Int32)) (8 : Int32)))
set_option maxRecDepth 20000 in
theorem s11 {sc : Option (Nat × (Nat → Int32))} {x0 : Nat} {s : xS} {r : xS × Int32} (h : f11 x0 s = some r) : Cl sc 1 11 [.ref x0] (hk_of s) (hk_of r.1, some (.int r.2)) := by
  unfold f11 at h
  obtain ⟨k0, h⟩ := ifg_some h
  refine ⟨pg_md 11, [some (.ref x0)], pg_mt_md (by decide), (hk_rcv k0), rfl, ?_⟩
  generalize ho : ((hk_of r.1, some (Value.int r.2)) : xH × Option Value) = o
  have hr : dn11 o r := ho.symm
  refine E_blk rfl ?_
  refine E_ps 2 (pc' := 2) (l' := [some (.ref x0)]) (st' := [.ref x0, .ref x0]) rfl ?_
  refine E_gi k0 (by decide) rfl ?_
  refine E_ps 4 (pc' := 12) (l' := [some (.ref x0)]) (st' := [.int (((s.1 x0 5) * (1103515245 : Int32)) + (12345 : Int32)), .ref x0]) rfl ?_
  obtain ⟨t1, e2, h⟩ := Option.bind_eq_some_iff.mp h
  refine E_pi k0 (by decide) rfl e2 ?_
  refine E_ps 1 (pc' := 16) (l' := [some (.ref x0)]) (st' := [.ref x0]) rfl ?_
  refine E_gi k0 (by decide) rfl ?_
  refine E_ps 3 (pc' := 24) (l' := [some (.ref x0)]) (st' := [.int (8 : Int32), .int (xm_ush (t1.1 x0 5) (16 : Int32))]) rfl ?_
  refine E_irem (by decide) ?_
  cases h
  exact E_ret rfl (pg_mt_md (by decide)) rfl hr

-- 9: ThreePlates$Bench.stroke(IIIII)I
def dn9 (o : xH × Option Value) (r : xS × Int32) : Prop := o = (hk_of r.1, some (.int r.2))
noncomputable def f9_81  (s : xS) : Option (xS × Int32) := some (s, (1 : Int32))
set_option maxRecDepth 20000 in
theorem s9_81 {sc : Option (Nat × (Nat → Int32))}  {s : xS} {o : xH × Option Value} {r : (xS × Int32)}  (h : f9_81  s = some r) (hr : dn9 o r) : Ev sc 2 9 [] 81 [none, none, none, none, none, none, none] [] (hk_of s) o := by
  unfold f9_81 at h
  refine E_blk rfl ?_
  refine E_ps 1 (pc' := 82) (l' := [none, none, none, none, none, none, none]) (st' := [.int (1 : Int32)]) rfl ?_
  cases h
  exact E_ret rfl (pg_mt_md (by decide)) rfl hr
noncomputable def f9 (x0 : Nat) (x1 : Int32) (x2 : Int32) (x3 : Int32) (x4 : Int32) (x5 : Int32) (s : xS) : Option (xS × Int32) := ifg (oK x0 0 = true) <| (hk_R x0 0).bind fun a1 => (aI s a1 ((x1 * (25 : Int32)) + x2)).bind fun v3 => if (-999 : Int32) ≤ v3 then ((f10 x0 ((x1 * (25 : Int32)) + x2) x3 s).bind fun z6 => (pI z6.1 x0 3 ((z6.1.1 x0 3) + (1 : Int32))).bind fun t8 => if x4 ≤ 0 then (f9_81  t8) else ((f11 x0 t8).bind fun z11 => if x4 ≤ z11.2 then (f9_81  z11.1) else ((f10 x0 ((x1 * (25 : Int32)) + x2) (1 : Int32) z11.1).bind fun z14 => ifg (¬ x5 = 0) <| if (x5 - (1 : Int32)) ≤ (irm x2 x5) then (f9_81  z14.1) else ((f10 x0 (((x1 * (25 : Int32)) + x2) + (1 : Int32)) (1 : Int32) z14.1).bind fun z18 => f9_81  z18.1)))) else (some (s, (0 : Int32)))
set_option maxRecDepth 20000 in
theorem s9 {sc : Option (Nat × (Nat → Int32))} {x0 : Nat} {x1 : Int32} {x2 : Int32} {x3 : Int32} {x4 : Int32} {x5 : Int32} {s : xS} {r : xS × Int32} (h : f9 x0 x1 x2 x3 x4 x5 s = some r) : Cl sc 2 9 [.ref x0, .int x1, .int x2, .int x3, .int x4, .int x5] (hk_of s) (hk_of r.1, some (.int r.2)) := by
  unfold f9 at h
  obtain ⟨k0, h⟩ := ifg_some h
  refine ⟨pg_md 9, [some (.ref x0), some (.int x1), some (.int x2), some (.int x3), some (.int x4), some (.int x5), none], pg_mt_md (by decide), (hk_rcv k0), rfl, ?_⟩
  generalize ho : ((hk_of r.1, some (Value.int r.2)) : xH × Option Value) = o
  have hr : dn9 o r := ho.symm
  refine E_blk rfl ?_
  refine E_ps 7 (pc' := 9) (l' := [some (.ref x0), some (.int x1), some (.int x2), some (.int x3), some (.int x4), some (.int x5), some (.int ((x1 * (25 : Int32)) + x2))]) (st' := [.ref x0]) rfl ?_
  obtain ⟨a1, e2, h⟩ := Option.bind_eq_some_iff.mp h
  refine E_gr k0 (by decide) rfl e2 ?_
  refine E_ps 1 (pc' := 14) (l' := [some (.ref x0), some (.int x1), some (.int x2), some (.int x3), some (.int x4), some (.int x5), some (.int ((x1 * (25 : Int32)) + x2))]) (st' := [.int ((x1 * (25 : Int32)) + x2), .ref a1]) rfl ?_
  obtain ⟨v3, e4, h⟩ := Option.bind_eq_some_iff.mp h
  refine E_ai e4 ?_
  refine E_ps 1 (pc' := 18) (l' := [some (.ref x0), some (.int x1), some (.int x2), some (.int x3), some (.int x4), some (.int x5), some (.int ((x1 * (25 : Int32)) + x2))]) (st' := [.int (-999 : Int32), .int v3]) rfl ?_
  by_cases c5 : (-999 : Int32) ≤ v3
  · rw [if_pos c5] at h
    refine E_jt rfl rfl c5 ?_
    refine E_blk rfl ?_
    refine E_ps 3 (pc' := 27) (l' := [some (.ref x0), some (.int x1), some (.int x2), some (.int x3), some (.int x4), some (.int x5), some (.int ((x1 * (25 : Int32)) + x2))]) (st' := [.int x3, .int ((x1 * (25 : Int32)) + x2), .ref x0]) rfl ?_
    obtain ⟨z6, e7, h⟩ := Option.bind_eq_some_iff.mp h
    refine E_callV (vs := [.ref x0, .int ((x1 * (25 : Int32)) + x2), .int x3]) (rest := []) rfl (by decide) rfl rfl (Nat.le_of_ble_eq_true rfl) (s10 e7) (by decide) ?_
    refine E_ps 2 (pc' := 32) (l' := [some (.ref x0), some (.int x1), some (.int x2), some (.int x3), some (.int x4), some (.int x5), some (.int ((x1 * (25 : Int32)) + x2))]) (st' := [.ref x0, .ref x0]) rfl ?_
    refine E_gi k0 (by decide) rfl ?_
    refine E_ps 2 (pc' := 37) (l' := [some (.ref x0), some (.int x1), some (.int x2), some (.int x3), some (.int x4), some (.int x5), some (.int ((x1 * (25 : Int32)) + x2))]) (st' := [.int ((z6.1.1 x0 3) + (1 : Int32)), .ref x0]) rfl ?_
    obtain ⟨t8, e9, h⟩ := Option.bind_eq_some_iff.mp h
    refine E_pi k0 (by decide) rfl e9 ?_
    refine E_ps 1 (pc' := 42) (l' := [some (.ref x0), some (.int x1), some (.int x2), some (.int x3), some (.int x4), some (.int x5), some (.int ((x1 * (25 : Int32)) + x2))]) (st' := [.int x4]) rfl ?_
    by_cases c10 : x4 ≤ 0
    · rw [if_pos c10] at h
      refine E_jt rfl rfl c10 ?_
      exact E_wk (l' := [none, none, none, none, none, none, none]) trivial (s9_81  h hr)
    · rw [if_neg c10] at h
      refine E_jf rfl rfl c10 ?_
      refine E_blk rfl ?_
      refine E_ps 1 (pc' := 46) (l' := [some (.ref x0), some (.int x1), some (.int x2), some (.int x3), some (.int x4), some (.int x5), some (.int ((x1 * (25 : Int32)) + x2))]) (st' := [.ref x0]) rfl ?_
      obtain ⟨z11, e12, h⟩ := Option.bind_eq_some_iff.mp h
      refine E_callI (vs := [.ref x0]) (rest := []) rfl (by decide) rfl rfl (Nat.le_of_ble_eq_true rfl) (s11 e12) (by decide) ?_
      refine E_ps 1 (pc' := 51) (l' := [some (.ref x0), some (.int x1), some (.int x2), some (.int x3), some (.int x4), some (.int x5), some (.int ((x1 * (25 : Int32)) + x2))]) (st' := [.int x4, .int z11.2]) rfl ?_
      by_cases c13 : x4 ≤ z11.2
      · rw [if_pos c13] at h
        refine E_jt rfl rfl c13 ?_
        exact E_wk (l' := [none, none, none, none, none, none, none]) trivial (s9_81  h hr)
      · rw [if_neg c13] at h
        refine E_jf rfl rfl c13 ?_
        refine E_blk rfl ?_
        refine E_ps 3 (pc' := 58) (l' := [some (.ref x0), some (.int x1), some (.int x2), some (.int x3), some (.int x4), some (.int x5), some (.int ((x1 * (25 : Int32)) + x2))]) (st' := [.int (1 : Int32), .int ((x1 * (25 : Int32)) + x2), .ref x0]) rfl ?_
        obtain ⟨z14, e15, h⟩ := Option.bind_eq_some_iff.mp h
        refine E_callV (vs := [.ref x0, .int ((x1 * (25 : Int32)) + x2), .int (1 : Int32)]) (rest := []) rfl (by decide) rfl rfl (Nat.le_of_ble_eq_true rfl) (s10 e15) (by decide) ?_
        refine E_ps 2 (pc' := 64) (l' := [some (.ref x0), some (.int x1), some (.int x2), some (.int x3), some (.int x4), some (.int x5), some (.int ((x1 * (25 : Int32)) + x2))]) (st' := [.int x5, .int x2]) rfl ?_
        obtain ⟨g16, h⟩ := ifg_some h
        refine E_irem g16 ?_
        refine E_ps 3 (pc' := 69) (l' := [some (.ref x0), some (.int x1), some (.int x2), some (.int x3), some (.int x4), some (.int x5), some (.int ((x1 * (25 : Int32)) + x2))]) (st' := [.int (x5 - (1 : Int32)), .int (irm x2 x5)]) rfl ?_
        by_cases c17 : (x5 - (1 : Int32)) ≤ (irm x2 x5)
        · rw [if_pos c17] at h
          refine E_jt rfl rfl c17 ?_
          exact E_wk (l' := [none, none, none, none, none, none, none]) trivial (s9_81  h hr)
        · rw [if_neg c17] at h
          refine E_jf rfl rfl c17 ?_
          refine E_blk rfl ?_
          refine E_ps 5 (pc' := 78) (l' := [some (.ref x0), some (.int x1), some (.int x2), some (.int x3), some (.int x4), some (.int x5), some (.int ((x1 * (25 : Int32)) + x2))]) (st' := [.int (1 : Int32), .int (((x1 * (25 : Int32)) + x2) + (1 : Int32)), .ref x0]) rfl ?_
          obtain ⟨z18, e19, h⟩ := Option.bind_eq_some_iff.mp h
          refine E_callV (vs := [.ref x0, .int (((x1 * (25 : Int32)) + x2) + (1 : Int32)), .int (1 : Int32)]) (rest := []) rfl (by decide) rfl rfl (Nat.le_of_ble_eq_true rfl) (s10 e19) (by decide) ?_
          exact E_wk (l' := [none, none, none, none, none, none, none]) trivial (s9_81  h hr)
  · rw [if_neg c5] at h
    refine E_jf rfl rfl c5 ?_
    refine E_blk rfl ?_
    refine E_ps 1 (pc' := 22) (l' := [some (.ref x0), some (.int x1), some (.int x2), some (.int x3), some (.int x4), some (.int x5), some (.int ((x1 * (25 : Int32)) + x2))]) (st' := [.int (0 : Int32)]) rfl ?_
    cases h
    exact E_ret rfl (pg_mt_md (by decide)) rfl hr

-- 68: ThreePlates$Shop.cells()I
def dn68 (o : xH × Option Value) (r : xS × Int32) : Prop := o = (hk_of r.1, some (.int r.2))
noncomputable def f68 (x0 : Nat) (s : xS) : Option (xS × Int32) := ifg (oK x0 7 = true) <| some (s, ((s.1 x0 3) * (s.1 x0 3)))
set_option maxRecDepth 20000 in
theorem s68 {sc : Option (Nat × (Nat → Int32))} {x0 : Nat} {s : xS} {r : xS × Int32} (h : f68 x0 s = some r) : Cl sc 1 68 [.ref x0] (hk_of s) (hk_of r.1, some (.int r.2)) := by
  unfold f68 at h
  obtain ⟨k0, h⟩ := ifg_some h
  refine ⟨pg_md 68, [some (.ref x0)], pg_mt_md (by decide), (hk_rcv k0), rfl, ?_⟩
  generalize ho : ((hk_of r.1, some (Value.int r.2)) : xH × Option Value) = o
  have hr : dn68 o r := ho.symm
  refine E_blk rfl ?_
  refine E_ps 1 (pc' := 1) (l' := [some (.ref x0)]) (st' := [.ref x0]) rfl ?_
  refine E_gi k0 (by decide) rfl ?_
  refine E_ps 1 (pc' := 5) (l' := [some (.ref x0)]) (st' := [.ref x0, .int (s.1 x0 3)]) rfl ?_
  refine E_gi k0 (by decide) rfl ?_
  refine E_ps 1 (pc' := 9) (l' := [some (.ref x0)]) (st' := [.int ((s.1 x0 3) * (s.1 x0 3))]) rfl ?_
  cases h
  exact E_ret rfl (pg_mt_md (by decide)) rfl hr

-- 13: ThreePlates$Equations.countUnknowns()I
def dn13 (o : xH × Option Value) (r : xS × Int32) : Prop := o = (hk_of r.1, some (.int r.2))
noncomputable def f13 (x0 : Nat) (s : xS) : Option (xS × Int32) := ifg (oK x0 1 = true) <| (hk_R x0 0).bind fun a1 => (hk_R x0 0).bind fun a4 => (f68 a4 s).bind fun z7 => (hk_R x0 1).bind fun a9 => some (z7.1, (((s.1 a1 2) * z7.2) + ((3 : Int32) * (z7.1.1 a9 1))))
set_option maxRecDepth 20000 in
theorem s13 {sc : Option (Nat × (Nat → Int32))} {x0 : Nat} {s : xS} {r : xS × Int32} (h : f13 x0 s = some r) : Cl sc 2 13 [.ref x0] (hk_of s) (hk_of r.1, some (.int r.2)) := by
  unfold f13 at h
  obtain ⟨k0, h⟩ := ifg_some h
  refine ⟨pg_md 13, [some (.ref x0)], pg_mt_md (by decide), (hk_rcv k0), rfl, ?_⟩
  generalize ho : ((hk_of r.1, some (Value.int r.2)) : xH × Option Value) = o
  have hr : dn13 o r := ho.symm
  refine E_blk rfl ?_
  refine E_ps 1 (pc' := 1) (l' := [some (.ref x0)]) (st' := [.ref x0]) rfl ?_
  obtain ⟨a1, e2, h⟩ := Option.bind_eq_some_iff.mp h
  refine E_gr k0 (by decide) rfl e2 ?_
  have kf3 : oK a1 7 = true := hk_rty k0 e2 rfl (by decide)
  refine E_gi kf3 (by decide) rfl ?_
  refine E_ps 1 (pc' := 8) (l' := [some (.ref x0)]) (st' := [.ref x0, .int (s.1 a1 2)]) rfl ?_
  obtain ⟨a4, e5, h⟩ := Option.bind_eq_some_iff.mp h
  refine E_gr k0 (by decide) rfl e5 ?_
  have kf6 : oK a4 7 = true := hk_rty k0 e5 rfl (by decide)
  obtain ⟨z7, e8, h⟩ := Option.bind_eq_some_iff.mp h
  refine E_callI (vs := [.ref a4]) (rest := [.int (s.1 a1 2)]) rfl (by decide) rfl rfl (Nat.le_of_ble_eq_true rfl) (s68 e8) (by decide) ?_
  refine E_ps 3 (pc' := 17) (l' := [some (.ref x0)]) (st' := [.ref x0, .int (3 : Int32), .int ((s.1 a1 2) * z7.2)]) rfl ?_
  obtain ⟨a9, e10, h⟩ := Option.bind_eq_some_iff.mp h
  refine E_gr k0 (by decide) rfl e10 ?_
  have kf11 : oK a9 4 = true := hk_rty k0 e10 rfl (by decide)
  refine E_gi kf11 (by decide) rfl ?_
  refine E_ps 2 (pc' := 25) (l' := [some (.ref x0)]) (st' := [.int (((s.1 a1 2) * z7.2) + ((3 : Int32) * (z7.1.1 a9 1)))]) rfl ?_
  cases h
  exact E_ret rfl (pg_mt_md (by decide)) rfl hr

-- 15: ThreePlates$Equations.write(LThreePlates$Round;II)V
def dn15 (o : xH × Option Value) (r : xS × Unit) : Prop := o = (hk_of r.1, none)
noncomputable def f15 (x0 : Nat) (x1 : Nat) (x2 : Int32) (x3 : Int32) (s : xS) : Option (xS × Unit) := ifg (oK x0 1 = true) <| ifg (oK x1 6 = true) <| (hk_R x0 5).bind fun a1 => (f286 a1 (0 : Int32) s).bind fun z3 => (hk_R x0 2).bind fun a5 => (hk_R a5 5).bind fun a8 => (aI z3.1 a8 x3).bind fun v10 => (hk_R x0 0).bind fun a12 => (hk_R x0 0).bind fun a15 => (f68 a15 z3.1).bind fun z18 => (hk_R x0 5).bind fun a20 => (hk_R x0 0).bind fun a22 => (f68 a22 z18.1).bind fun z25 => (wI z25.1 a20 (((z18.1.1 x1 1) * z25.2) + v10) (1 : Int32)).bind fun t27 => (hk_R x0 5).bind fun a29 => (hk_R x0 0).bind fun a31 => (f68 a31 t27).bind fun z34 => (hk_R x0 2).bind fun a36 => (hk_R a36 6).bind fun a39 => (aI z34.1 a39 x3).bind fun v41 => (wI z34.1 a29 (((t27.1 x1 0) * z34.2) + v41) (1 : Int32)).bind fun t43 => (hk_R x0 5).bind fun a45 => (wI t43 a45 (((z3.1.1 a12 2) * z18.2) + ((3 : Int32) * x2)) (1000002 : Int32)).bind fun t47 => (hk_R x0 5).bind fun a49 => (hk_R x0 0).bind fun a51 => ifg (¬ (t47.1 a51 3) = 0) <| (wI t47 a49 ((((z3.1.1 a12 2) * z18.2) + ((3 : Int32) * x2)) + (1 : Int32)) (irm ((1000003 : Int32) - (irm v10 (t47.1 a51 3))) (1000003 : Int32))).bind fun t55 => (hk_R x0 5).bind fun a57 => (hk_R x0 0).bind fun a59 => ifg (¬ (t55.1 a59 3) = 0) <| (wI t55 a57 ((((z3.1.1 a12 2) * z18.2) + ((3 : Int32) * x2)) + (2 : Int32)) (irm ((1000003 : Int32) - (v10 / (t55.1 a59 3))) (1000003 : Int32))).bind fun t63 => some (t63, ())
set_option maxRecDepth 20000 in
theorem s15 {sc : Option (Nat × (Nat → Int32))} {x0 : Nat} {x1 : Nat} {x2 : Int32} {x3 : Int32} {s : xS} {r : xS × Unit} (h : f15 x0 x1 x2 x3 s = some r) : Cl sc 2 15 [.ref x0, .ref x1, .int x2, .int x3] (hk_of s) (hk_of r.1, none) := by
  unfold f15 at h
  obtain ⟨k0, h⟩ := ifg_some h
  obtain ⟨k1, h⟩ := ifg_some h
  refine ⟨pg_md 15, [some (.ref x0), some (.ref x1), some (.int x2), some (.int x3), none, none], pg_mt_md (by decide), (hk_rcv k0), rfl, ?_⟩
  generalize ho : ((hk_of r.1, none) : xH × Option Value) = o
  have hr : dn15 o r := ho.symm
  refine E_blk rfl ?_
  refine E_ps 1 (pc' := 1) (l' := [some (.ref x0), some (.ref x1), some (.int x2), some (.int x3), none, none]) (st' := [.ref x0]) rfl ?_
  obtain ⟨a1, e2, h⟩ := Option.bind_eq_some_iff.mp h
  refine E_gr k0 (by decide) rfl e2 ?_
  refine E_ps 1 (pc' := 5) (l' := [some (.ref x0), some (.ref x1), some (.int x2), some (.int x3), none, none]) (st' := [.int (0 : Int32), .ref a1]) rfl ?_
  obtain ⟨z3, e4, h⟩ := Option.bind_eq_some_iff.mp h
  refine E_callV (vs := [.ref a1, .int (0 : Int32)]) (rest := []) rfl (by decide) rfl rfl (Nat.le_of_ble_eq_true rfl) (s286 e4) (by decide) ?_
  refine E_ps 1 (pc' := 9) (l' := [some (.ref x0), some (.ref x1), some (.int x2), some (.int x3), none, none]) (st' := [.ref x0]) rfl ?_
  obtain ⟨a5, e6, h⟩ := Option.bind_eq_some_iff.mp h
  refine E_gr k0 (by decide) rfl e6 ?_
  have kf7 : oK a5 3 = true := hk_rty k0 e6 rfl (by decide)
  obtain ⟨a8, e9, h⟩ := Option.bind_eq_some_iff.mp h
  refine E_gr kf7 (by decide) rfl e9 ?_
  refine E_ps 1 (pc' := 16) (l' := [some (.ref x0), some (.ref x1), some (.int x2), some (.int x3), none, none]) (st' := [.int x3, .ref a8]) rfl ?_
  obtain ⟨v10, e11, h⟩ := Option.bind_eq_some_iff.mp h
  refine E_ai e11 ?_
  refine E_ps 2 (pc' := 20) (l' := [some (.ref x0), some (.ref x1), some (.int x2), some (.int x3), some (.int v10), none]) (st' := [.ref x0]) rfl ?_
  obtain ⟨a12, e13, h⟩ := Option.bind_eq_some_iff.mp h
  refine E_gr k0 (by decide) rfl e13 ?_
  have kf14 : oK a12 7 = true := hk_rty k0 e13 rfl (by decide)
  refine E_gi kf14 (by decide) rfl ?_
  refine E_ps 1 (pc' := 27) (l' := [some (.ref x0), some (.ref x1), some (.int x2), some (.int x3), some (.int v10), none]) (st' := [.ref x0, .int (z3.1.1 a12 2)]) rfl ?_
  obtain ⟨a15, e16, h⟩ := Option.bind_eq_some_iff.mp h
  refine E_gr k0 (by decide) rfl e16 ?_
  have kf17 : oK a15 7 = true := hk_rty k0 e16 rfl (by decide)
  obtain ⟨z18, e19, h⟩ := Option.bind_eq_some_iff.mp h
  refine E_callI (vs := [.ref a15]) (rest := [.int (z3.1.1 a12 2)]) rfl (by decide) rfl rfl (Nat.le_of_ble_eq_true rfl) (s68 e19) (by decide) ?_
  refine E_ps 7 (pc' := 41) (l' := [some (.ref x0), some (.ref x1), some (.int x2), some (.int x3), some (.int v10), some (.int (((z3.1.1 a12 2) * z18.2) + ((3 : Int32) * x2)))]) (st' := [.ref x0]) rfl ?_
  obtain ⟨a20, e21, h⟩ := Option.bind_eq_some_iff.mp h
  refine E_gr k0 (by decide) rfl e21 ?_
  refine E_ps 1 (pc' := 45) (l' := [some (.ref x0), some (.ref x1), some (.int x2), some (.int x3), some (.int v10), some (.int (((z3.1.1 a12 2) * z18.2) + ((3 : Int32) * x2)))]) (st' := [.ref x1, .ref a20]) rfl ?_
  refine E_gi k1 (by decide) rfl ?_
  refine E_ps 1 (pc' := 49) (l' := [some (.ref x0), some (.ref x1), some (.int x2), some (.int x3), some (.int v10), some (.int (((z3.1.1 a12 2) * z18.2) + ((3 : Int32) * x2)))]) (st' := [.ref x0, .int (z18.1.1 x1 1), .ref a20]) rfl ?_
  obtain ⟨a22, e23, h⟩ := Option.bind_eq_some_iff.mp h
  refine E_gr k0 (by decide) rfl e23 ?_
  have kf24 : oK a22 7 = true := hk_rty k0 e23 rfl (by decide)
  obtain ⟨z25, e26, h⟩ := Option.bind_eq_some_iff.mp h
  refine E_callI (vs := [.ref a22]) (rest := [.int (z18.1.1 x1 1), .ref a20]) rfl (by decide) rfl rfl (Nat.le_of_ble_eq_true rfl) (s68 e26) (by decide) ?_
  refine E_ps 4 (pc' := 60) (l' := [some (.ref x0), some (.ref x1), some (.int x2), some (.int x3), some (.int v10), some (.int (((z3.1.1 a12 2) * z18.2) + ((3 : Int32) * x2)))]) (st' := [.int (1 : Int32), .int (((z18.1.1 x1 1) * z25.2) + v10), .ref a20]) rfl ?_
  obtain ⟨t27, e28, h⟩ := Option.bind_eq_some_iff.mp h
  refine E_wi e28 ?_
  refine E_ps 1 (pc' := 62) (l' := [some (.ref x0), some (.ref x1), some (.int x2), some (.int x3), some (.int v10), some (.int (((z3.1.1 a12 2) * z18.2) + ((3 : Int32) * x2)))]) (st' := [.ref x0]) rfl ?_
  obtain ⟨a29, e30, h⟩ := Option.bind_eq_some_iff.mp h
  refine E_gr k0 (by decide) rfl e30 ?_
  refine E_ps 1 (pc' := 66) (l' := [some (.ref x0), some (.ref x1), some (.int x2), some (.int x3), some (.int v10), some (.int (((z3.1.1 a12 2) * z18.2) + ((3 : Int32) * x2)))]) (st' := [.ref x1, .ref a29]) rfl ?_
  refine E_gi k1 (by decide) rfl ?_
  refine E_ps 1 (pc' := 70) (l' := [some (.ref x0), some (.ref x1), some (.int x2), some (.int x3), some (.int v10), some (.int (((z3.1.1 a12 2) * z18.2) + ((3 : Int32) * x2)))]) (st' := [.ref x0, .int (t27.1 x1 0), .ref a29]) rfl ?_
  obtain ⟨a31, e32, h⟩ := Option.bind_eq_some_iff.mp h
  refine E_gr k0 (by decide) rfl e32 ?_
  have kf33 : oK a31 7 = true := hk_rty k0 e32 rfl (by decide)
  obtain ⟨z34, e35, h⟩ := Option.bind_eq_some_iff.mp h
  refine E_callI (vs := [.ref a31]) (rest := [.int (t27.1 x1 0), .ref a29]) rfl (by decide) rfl rfl (Nat.le_of_ble_eq_true rfl) (s68 e35) (by decide) ?_
  refine E_ps 2 (pc' := 78) (l' := [some (.ref x0), some (.ref x1), some (.int x2), some (.int x3), some (.int v10), some (.int (((z3.1.1 a12 2) * z18.2) + ((3 : Int32) * x2)))]) (st' := [.ref x0, .int ((t27.1 x1 0) * z34.2), .ref a29]) rfl ?_
  obtain ⟨a36, e37, h⟩ := Option.bind_eq_some_iff.mp h
  refine E_gr k0 (by decide) rfl e37 ?_
  have kf38 : oK a36 3 = true := hk_rty k0 e37 rfl (by decide)
  obtain ⟨a39, e40, h⟩ := Option.bind_eq_some_iff.mp h
  refine E_gr kf38 (by decide) rfl e40 ?_
  refine E_ps 1 (pc' := 85) (l' := [some (.ref x0), some (.ref x1), some (.int x2), some (.int x3), some (.int v10), some (.int (((z3.1.1 a12 2) * z18.2) + ((3 : Int32) * x2)))]) (st' := [.int x3, .ref a39, .int ((t27.1 x1 0) * z34.2), .ref a29]) rfl ?_
  obtain ⟨v41, e42, h⟩ := Option.bind_eq_some_iff.mp h
  refine E_ai e42 ?_
  refine E_ps 2 (pc' := 88) (l' := [some (.ref x0), some (.ref x1), some (.int x2), some (.int x3), some (.int v10), some (.int (((z3.1.1 a12 2) * z18.2) + ((3 : Int32) * x2)))]) (st' := [.int (1 : Int32), .int (((t27.1 x1 0) * z34.2) + v41), .ref a29]) rfl ?_
  obtain ⟨t43, e44, h⟩ := Option.bind_eq_some_iff.mp h
  refine E_wi e44 ?_
  refine E_ps 1 (pc' := 90) (l' := [some (.ref x0), some (.ref x1), some (.int x2), some (.int x3), some (.int v10), some (.int (((z3.1.1 a12 2) * z18.2) + ((3 : Int32) * x2)))]) (st' := [.ref x0]) rfl ?_
  obtain ⟨a45, e46, h⟩ := Option.bind_eq_some_iff.mp h
  refine E_gr k0 (by decide) rfl e46 ?_
  refine E_ps 2 (pc' := 97) (l' := [some (.ref x0), some (.ref x1), some (.int x2), some (.int x3), some (.int v10), some (.int (((z3.1.1 a12 2) * z18.2) + ((3 : Int32) * x2)))]) (st' := [.int (1000002 : Int32), .int (((z3.1.1 a12 2) * z18.2) + ((3 : Int32) * x2)), .ref a45]) rfl ?_
  obtain ⟨t47, e48, h⟩ := Option.bind_eq_some_iff.mp h
  refine E_wi e48 ?_
  refine E_ps 1 (pc' := 99) (l' := [some (.ref x0), some (.ref x1), some (.int x2), some (.int x3), some (.int v10), some (.int (((z3.1.1 a12 2) * z18.2) + ((3 : Int32) * x2)))]) (st' := [.ref x0]) rfl ?_
  obtain ⟨a49, e50, h⟩ := Option.bind_eq_some_iff.mp h
  refine E_gr k0 (by decide) rfl e50 ?_
  refine E_ps 6 (pc' := 111) (l' := [some (.ref x0), some (.ref x1), some (.int x2), some (.int x3), some (.int v10), some (.int (((z3.1.1 a12 2) * z18.2) + ((3 : Int32) * x2)))]) (st' := [.ref x0, .int v10, .int (1000003 : Int32), .int ((((z3.1.1 a12 2) * z18.2) + ((3 : Int32) * x2)) + (1 : Int32)), .ref a49]) rfl ?_
  obtain ⟨a51, e52, h⟩ := Option.bind_eq_some_iff.mp h
  refine E_gr k0 (by decide) rfl e52 ?_
  have kf53 : oK a51 7 = true := hk_rty k0 e52 rfl (by decide)
  refine E_gi kf53 (by decide) rfl ?_
  obtain ⟨g54, h⟩ := ifg_some h
  refine E_irem g54 ?_
  refine E_ps 2 (pc' := 121) (l' := [some (.ref x0), some (.ref x1), some (.int x2), some (.int x3), some (.int v10), some (.int (((z3.1.1 a12 2) * z18.2) + ((3 : Int32) * x2)))]) (st' := [.int (1000003 : Int32), .int ((1000003 : Int32) - (irm v10 (t47.1 a51 3))), .int ((((z3.1.1 a12 2) * z18.2) + ((3 : Int32) * x2)) + (1 : Int32)), .ref a49]) rfl ?_
  refine E_irem (by decide) ?_
  obtain ⟨t55, e56, h⟩ := Option.bind_eq_some_iff.mp h
  refine E_wi e56 ?_
  refine E_ps 1 (pc' := 124) (l' := [some (.ref x0), some (.ref x1), some (.int x2), some (.int x3), some (.int v10), some (.int (((z3.1.1 a12 2) * z18.2) + ((3 : Int32) * x2)))]) (st' := [.ref x0]) rfl ?_
  obtain ⟨a57, e58, h⟩ := Option.bind_eq_some_iff.mp h
  refine E_gr k0 (by decide) rfl e58 ?_
  refine E_ps 6 (pc' := 136) (l' := [some (.ref x0), some (.ref x1), some (.int x2), some (.int x3), some (.int v10), some (.int (((z3.1.1 a12 2) * z18.2) + ((3 : Int32) * x2)))]) (st' := [.ref x0, .int v10, .int (1000003 : Int32), .int ((((z3.1.1 a12 2) * z18.2) + ((3 : Int32) * x2)) + (2 : Int32)), .ref a57]) rfl ?_
  obtain ⟨a59, e60, h⟩ := Option.bind_eq_some_iff.mp h
  refine E_gr k0 (by decide) rfl e60 ?_
  have kf61 : oK a59 7 = true := hk_rty k0 e60 rfl (by decide)
  refine E_gi kf61 (by decide) rfl ?_
  obtain ⟨g62, h⟩ := ifg_some h
  refine E_idiv g62 ?_
  refine E_ps 2 (pc' := 146) (l' := [some (.ref x0), some (.ref x1), some (.int x2), some (.int x3), some (.int v10), some (.int (((z3.1.1 a12 2) * z18.2) + ((3 : Int32) * x2)))]) (st' := [.int (1000003 : Int32), .int ((1000003 : Int32) - (v10 / (t55.1 a59 3))), .int ((((z3.1.1 a12 2) * z18.2) + ((3 : Int32) * x2)) + (2 : Int32)), .ref a57]) rfl ?_
  refine E_irem (by decide) ?_
  obtain ⟨t63, e64, h⟩ := Option.bind_eq_some_iff.mp h
  refine E_wi e64 ?_
  cases h
  exact E_ret rfl (pg_mt_md (by decide)) rfl hr

-- 17: ThreePlates$Equations.takeRow(II)V
def dn17 (o : xH × Option Value) (r : xS × Unit) : Prop := o = (hk_of r.1, none)
def dn17_21 (sc : Option (Nat × (Nat → Int32))) (x0 : Nat) (x2 : Int32) (x3 : Int64) (x5 : Int32) (o : xH × Option Value) (r : ((Int32 × xS) ⊕ (xS × Unit))) : Prop := match r with
  | .inl q => Ev sc 1 17 [] 21 [some (.ref x0), none, some (.int x2), some (.long x3), none, some (.int x5), some (.int q.1)] [] (hk_of q.2) o
  | .inr r => dn17 o r
noncomputable def f17_74 (x0 : Nat) (x2 : Int32) (x3 : Int64) (x5 : Int32) (x6 : Int32) (s : xS) : Option ((Int32 × xS) ⊕ (xS × Unit)) := some (Sum.inl ((x6 + (1 : Int32)), s))
set_option maxRecDepth 20000 in
theorem s17_74 {sc : Option (Nat × (Nat → Int32))} {x0 : Nat} {x2 : Int32} {x3 : Int64} {x5 : Int32} {x6 : Int32} {s : xS} {o : xH × Option Value} {r : ((Int32 × xS) ⊕ (xS × Unit))} (k0 : oK x0 1 = true) (h : f17_74 x0 x2 x3 x5 x6 s = some r) (hr : dn17_21 sc x0 x2 x3 x5 o r) : Ev sc 1 17 [] 74 [some (.ref x0), none, some (.int x2), some (.long x3), none, some (.int x5), some (.int x6)] [] (hk_of s) o := by
  unfold f17_74 at h
  refine E_blk rfl ?_
  refine E_ps 1 (pc' := 77) (l' := [some (.ref x0), none, some (.int x2), some (.long x3), none, some (.int x5), some (.int (x6 + (1 : Int32)))]) (st' := []) rfl ?_
  refine E_j rfl rfl ?_
  cases h
  exact E_wk (l' := [some (.ref x0), none, some (.int x2), some (.long x3), none, some (.int x5), some (.int (x6 + (1 : Int32)))]) ⟨rfl, rfl, rfl, rfl, rfl, trivial⟩ hr
noncomputable def f17_21 (x0 : Nat) (x2 : Int32) (x3 : Int64) (x5 : Int32) (x6 : Int32) (s : xS) : Option ((Int32 × xS) ⊕ (xS × Unit)) := if x2 ≤ x6 then (Option.map Sum.inr (some (s, ()))) else ((hk_R x0 3).bind fun a2 => (aI s a2 (x5 + x6)).bind fun v4 => if v4 = 0 then (f17_74 x0 x2 x3 x5 x6 s) else ((hk_R x0 5).bind fun a7 => (hk_R x0 5).bind fun a9 => (aI s a9 x6).bind fun v11 => (hk_R x0 3).bind fun a13 => (aI s a13 (x5 + x6)).bind fun v15 => (wI s a7 x6 ((lrm (v11.toInt64 + (x3 * v15.toInt64)) (1000003 : Int64))).toInt32).bind fun t17 => f17_74 x0 x2 x3 x5 x6 t17))
set_option maxRecDepth 20000 in
theorem s17_21 {sc : Option (Nat × (Nat → Int32))} {x0 : Nat} {x2 : Int32} {x3 : Int64} {x5 : Int32} {x6 : Int32} {s : xS} {o : xH × Option Value} {r : ((Int32 × xS) ⊕ (xS × Unit))} (k0 : oK x0 1 = true) (h : f17_21 x0 x2 x3 x5 x6 s = some r) (hr : dn17_21 sc x0 x2 x3 x5 o r) : Ev sc 1 17 [] 21 [some (.ref x0), none, some (.int x2), some (.long x3), none, some (.int x5), some (.int x6)] [] (hk_of s) o := by
  unfold f17_21 at h
  refine E_blk rfl ?_
  refine E_ps 2 (pc' := 24) (l' := [some (.ref x0), none, some (.int x2), some (.long x3), none, some (.int x5), some (.int x6)]) (st' := [.int x2, .int x6]) rfl ?_
  by_cases c1 : x2 ≤ x6
  · rw [if_pos c1] at h
    refine E_jt rfl rfl c1 ?_
    obtain ⟨r, h, hr⟩ := lf_some (Dn := dn17_21 sc x0 x2 x3 x5 o) h hr
    refine E_blk rfl ?_
    cases h
    exact E_ret rfl (pg_mt_md (by decide)) rfl hr
  · rw [if_neg c1] at h
    refine E_jf rfl rfl c1 ?_
    refine E_blk rfl ?_
    refine E_ps 1 (pc' := 28) (l' := [some (.ref x0), none, some (.int x2), some (.long x3), none, some (.int x5), some (.int x6)]) (st' := [.ref x0]) rfl ?_
    obtain ⟨a2, e3, h⟩ := Option.bind_eq_some_iff.mp h
    refine E_gr k0 (by decide) rfl e3 ?_
    refine E_ps 3 (pc' := 36) (l' := [some (.ref x0), none, some (.int x2), some (.long x3), none, some (.int x5), some (.int x6)]) (st' := [.int (x5 + x6), .ref a2]) rfl ?_
    obtain ⟨v4, e5, h⟩ := Option.bind_eq_some_iff.mp h
    refine E_ai e5 ?_
    by_cases c6 : v4 = 0
    · rw [if_pos c6] at h
      refine E_jt rfl rfl c6 ?_
      exact E_wk (l' := [some (.ref x0), none, some (.int x2), some (.long x3), none, some (.int x5), some (.int x6)]) ⟨rfl, rfl, rfl, rfl, rfl, trivial⟩ (s17_74 k0 h hr)
    · rw [if_neg c6] at h
      refine E_jf rfl rfl c6 ?_
      refine E_blk rfl ?_
      refine E_ps 1 (pc' := 41) (l' := [some (.ref x0), none, some (.int x2), some (.long x3), none, some (.int x5), some (.int x6)]) (st' := [.ref x0]) rfl ?_
      obtain ⟨a7, e8, h⟩ := Option.bind_eq_some_iff.mp h
      refine E_gr k0 (by decide) rfl e8 ?_
      refine E_ps 2 (pc' := 47) (l' := [some (.ref x0), none, some (.int x2), some (.long x3), none, some (.int x5), some (.int x6)]) (st' := [.ref x0, .int x6, .ref a7]) rfl ?_
      obtain ⟨a9, e10, h⟩ := Option.bind_eq_some_iff.mp h
      refine E_gr k0 (by decide) rfl e10 ?_
      refine E_ps 1 (pc' := 52) (l' := [some (.ref x0), none, some (.int x2), some (.long x3), none, some (.int x5), some (.int x6)]) (st' := [.int x6, .ref a9, .int x6, .ref a7]) rfl ?_
      obtain ⟨v11, e12, h⟩ := Option.bind_eq_some_iff.mp h
      refine E_ai e12 ?_
      refine E_ps 3 (pc' := 56) (l' := [some (.ref x0), none, some (.int x2), some (.long x3), none, some (.int x5), some (.int x6)]) (st' := [.ref x0, .long x3, .long v11.toInt64, .int x6, .ref a7]) rfl ?_
      obtain ⟨a13, e14, h⟩ := Option.bind_eq_some_iff.mp h
      refine E_gr k0 (by decide) rfl e14 ?_
      refine E_ps 3 (pc' := 64) (l' := [some (.ref x0), none, some (.int x2), some (.long x3), none, some (.int x5), some (.int x6)]) (st' := [.int (x5 + x6), .ref a13, .long x3, .long v11.toInt64, .int x6, .ref a7]) rfl ?_
      obtain ⟨v15, e16, h⟩ := Option.bind_eq_some_iff.mp h
      refine E_ai e16 ?_
      refine E_ps 4 (pc' := 71) (l' := [some (.ref x0), none, some (.int x2), some (.long x3), none, some (.int x5), some (.int x6)]) (st' := [.long (1000003 : Int64), .long (v11.toInt64 + (x3 * v15.toInt64)), .int x6, .ref a7]) rfl ?_
      refine E_lrem (by decide) ?_
      refine E_ps 1 (pc' := 73) (l' := [some (.ref x0), none, some (.int x2), some (.long x3), none, some (.int x5), some (.int x6)]) (st' := [.int ((lrm (v11.toInt64 + (x3 * v15.toInt64)) (1000003 : Int64))).toInt32, .int x6, .ref a7]) rfl ?_
      obtain ⟨t17, e18, h⟩ := Option.bind_eq_some_iff.mp h
      refine E_wi e18 ?_
      exact E_wk (l' := [some (.ref x0), none, some (.int x2), some (.long x3), none, some (.int x5), some (.int x6)]) ⟨rfl, rfl, rfl, rfl, rfl, trivial⟩ (s17_74 k0 h hr)
theorem s17_21_w {sc : Option (Nat × (Nat → Int32))} {x0 : Nat} {x2 : Int32} {x3 : Int64} {x5 : Int32} {x6 : Int32} {s : xS} {o : xH × Option Value} {r : (xS × Unit)} (k0 : oK x0 1 = true) (h : whl (fun q : (Int32 × xS) => f17_21 x0 x2 x3 x5 q.1 q.2) (x6, s) = some r) (hr : dn17 o r) : Ev sc 1 17 [] 21 [some (.ref x0), none, some (.int x2), some (.long x3), none, some (.int x5), some (.int x6)] [] (hk_of s) o := by
  refine whl_snd (E := fun q : (Int32 × xS) => Ev sc 1 17 [] 21 [some (.ref x0), none, some (.int x2), some (.long x3), none, some (.int x5), some (.int q.1)] [] (hk_of q.2) o) (P := fun r => dn17 o r) (fun q r h hr => ?_) h hr
  exact s17_21 k0 h (by cases r <;> exact hr)
noncomputable def f17 (x0 : Nat) (x1 : Int32) (x2 : Int32) (s : xS) : Option (xS × Unit) := ifg (oK x0 1 = true) <| (hk_R x0 5).bind fun a1 => (aI s a1 x1).bind fun v3 => whl (fun q : (Int32 × xS) => f17_21 x0 x2 ((1000003 : Int32) - v3).toInt64 (x1 * (130 : Int32)) q.1 q.2) (x1, s)
set_option maxRecDepth 20000 in
theorem s17 {sc : Option (Nat × (Nat → Int32))} {x0 : Nat} {x1 : Int32} {x2 : Int32} {s : xS} {r : xS × Unit} (h : f17 x0 x1 x2 s = some r) : Cl sc 1 17 [.ref x0, .int x1, .int x2] (hk_of s) (hk_of r.1, none) := by
  unfold f17 at h
  obtain ⟨k0, h⟩ := ifg_some h
  refine ⟨pg_md 17, [some (.ref x0), some (.int x1), some (.int x2), none, none, none, none], pg_mt_md (by decide), (hk_rcv k0), rfl, ?_⟩
  generalize ho : ((hk_of r.1, none) : xH × Option Value) = o
  have hr : dn17 o r := ho.symm
  refine E_blk rfl ?_
  refine E_ps 2 (pc' := 3) (l' := [some (.ref x0), some (.int x1), some (.int x2), none, none, none, none]) (st' := [.ref x0, .int (1000003 : Int32)]) rfl ?_
  obtain ⟨a1, e2, h⟩ := Option.bind_eq_some_iff.mp h
  refine E_gr k0 (by decide) rfl e2 ?_
  refine E_ps 1 (pc' := 7) (l' := [some (.ref x0), some (.int x1), some (.int x2), none, none, none, none]) (st' := [.int x1, .ref a1, .int (1000003 : Int32)]) rfl ?_
  obtain ⟨v3, e4, h⟩ := Option.bind_eq_some_iff.mp h
  refine E_ai e4 ?_
  refine E_ps 9 (pc' := 21) (l' := [some (.ref x0), some (.int x1), some (.int x2), some (.long ((1000003 : Int32) - v3).toInt64), none, some (.int (x1 * (130 : Int32))), some (.int x1)]) (st' := []) rfl ?_
  exact E_wk (l' := [some (.ref x0), none, some (.int x2), some (.long ((1000003 : Int32) - v3).toInt64), none, some (.int (x1 * (130 : Int32))), some (.int x1)]) ⟨rfl, rfl, rfl, rfl, rfl, trivial⟩ (s17_21_w k0 h hr)

-- 19: ThreePlates$Equations.inverse(J)J
def dn19 (o : xH × Option Value) (r : xS × Int64) : Prop := o = (hk_of r.1, some (.long r.2))
def dn19_9 (sc : Option (Nat × (Nat → Int32)))  (o : xH × Option Value) (r : ((Int64 × Int64 × Int32 × xS) ⊕ (xS × Int64))) : Prop := match r with
  | .inl q => Ev sc 1 19 [] 9 [none, none, some (.long q.1), none, some (.long q.2.1), none, some (.int q.2.2.1)] [] (hk_of q.2.2.2) o
  | .inr r => dn19 o r
noncomputable def f19_31 (x2 : Int64) (x4 : Int64) (x6 : Int32) (s : xS) : Option ((Int64 × Int64 × Int32 × xS) ⊕ (xS × Int64)) := some (Sum.inl ((lrm (x2 * x2) (1000003 : Int64)), x4, (x6 >>> ((1 : Int32) &&& 31)), s))
set_option maxRecDepth 20000 in
theorem s19_31 {sc : Option (Nat × (Nat → Int32))} {x2 : Int64} {x4 : Int64} {x6 : Int32} {s : xS} {o : xH × Option Value} {r : ((Int64 × Int64 × Int32 × xS) ⊕ (xS × Int64))}  (h : f19_31 x2 x4 x6 s = some r) (hr : dn19_9 sc  o r) : Ev sc 1 19 [] 31 [none, none, some (.long x2), none, some (.long x4), none, some (.int x6)] [] (hk_of s) o := by
  unfold f19_31 at h
  refine E_blk rfl ?_
  refine E_ps 4 (pc' := 37) (l' := [none, none, some (.long x2), none, some (.long x4), none, some (.int x6)]) (st' := [.long (1000003 : Int64), .long (x2 * x2)]) rfl ?_
  refine E_lrem (by decide) ?_
  refine E_ps 5 (pc' := 45) (l' := [none, none, some (.long (lrm (x2 * x2) (1000003 : Int64))), none, some (.long x4), none, some (.int (x6 >>> ((1 : Int32) &&& 31)))]) (st' := []) rfl ?_
  refine E_j rfl rfl ?_
  cases h
  exact E_wk (l' := [none, none, some (.long (lrm (x2 * x2) (1000003 : Int64))), none, some (.long x4), none, some (.int (x6 >>> ((1 : Int32) &&& 31)))]) ⟨rfl, rfl, rfl, trivial⟩ hr
noncomputable def f19_9 (x2 : Int64) (x4 : Int64) (x6 : Int32) (s : xS) : Option ((Int64 × Int64 × Int32 × xS) ⊕ (xS × Int64)) := if x6 ≤ 0 then (Option.map Sum.inr (some (s, x4))) else (if (x6 &&& (1 : Int32)) = 0 then (f19_31 x2 x4 x6 s) else (f19_31 x2 (lrm (x4 * x2) (1000003 : Int64)) x6 s))
set_option maxRecDepth 20000 in
theorem s19_9 {sc : Option (Nat × (Nat → Int32))} {x2 : Int64} {x4 : Int64} {x6 : Int32} {s : xS} {o : xH × Option Value} {r : ((Int64 × Int64 × Int32 × xS) ⊕ (xS × Int64))}  (h : f19_9 x2 x4 x6 s = some r) (hr : dn19_9 sc  o r) : Ev sc 1 19 [] 9 [none, none, some (.long x2), none, some (.long x4), none, some (.int x6)] [] (hk_of s) o := by
  unfold f19_9 at h
  refine E_blk rfl ?_
  refine E_ps 1 (pc' := 11) (l' := [none, none, some (.long x2), none, some (.long x4), none, some (.int x6)]) (st' := [.int x6]) rfl ?_
  by_cases c1 : x6 ≤ 0
  · rw [if_pos c1] at h
    refine E_jt rfl rfl c1 ?_
    obtain ⟨r, h, hr⟩ := lf_some (Dn := dn19_9 sc  o) h hr
    refine E_blk rfl ?_
    refine E_ps 1 (pc' := 50) (l' := [none, none, some (.long x2), none, some (.long x4), none, some (.int x6)]) (st' := [.long x4]) rfl ?_
    cases h
    exact E_ret rfl (pg_mt_md (by decide)) rfl hr
  · rw [if_neg c1] at h
    refine E_jf rfl rfl c1 ?_
    refine E_blk rfl ?_
    refine E_ps 3 (pc' := 18) (l' := [none, none, some (.long x2), none, some (.long x4), none, some (.int x6)]) (st' := [.int (x6 &&& (1 : Int32))]) rfl ?_
    by_cases c2 : (x6 &&& (1 : Int32)) = 0
    · rw [if_pos c2] at h
      refine E_jt rfl rfl c2 ?_
      exact E_wk (l' := [none, none, some (.long x2), none, some (.long x4), none, some (.int x6)]) ⟨rfl, rfl, rfl, trivial⟩ (s19_31  h hr)
    · rw [if_neg c2] at h
      refine E_jf rfl rfl c2 ?_
      refine E_blk rfl ?_
      refine E_ps 4 (pc' := 28) (l' := [none, none, some (.long x2), none, some (.long x4), none, some (.int x6)]) (st' := [.long (1000003 : Int64), .long (x4 * x2)]) rfl ?_
      refine E_lrem (by decide) ?_
      refine E_ps 1 (pc' := 31) (l' := [none, none, some (.long x2), none, some (.long (lrm (x4 * x2) (1000003 : Int64))), none, some (.int x6)]) (st' := []) rfl ?_
      exact E_wk (l' := [none, none, some (.long x2), none, some (.long (lrm (x4 * x2) (1000003 : Int64))), none, some (.int x6)]) ⟨rfl, rfl, rfl, trivial⟩ (s19_31  h hr)
theorem s19_9_w {sc : Option (Nat × (Nat → Int32))} {x2 : Int64} {x4 : Int64} {x6 : Int32} {s : xS} {o : xH × Option Value} {r : (xS × Int64)}  (h : whl (fun q : (Int64 × Int64 × Int32 × xS) => f19_9 q.1 q.2.1 q.2.2.1 q.2.2.2) (x2, x4, x6, s) = some r) (hr : dn19 o r) : Ev sc 1 19 [] 9 [none, none, some (.long x2), none, some (.long x4), none, some (.int x6)] [] (hk_of s) o := by
  refine whl_snd (E := fun q : (Int64 × Int64 × Int32 × xS) => Ev sc 1 19 [] 9 [none, none, some (.long q.1), none, some (.long q.2.1), none, some (.int q.2.2.1)] [] (hk_of q.2.2.2) o) (P := fun r => dn19 o r) (fun q r h hr => ?_) h hr
  exact s19_9  h (by cases r <;> exact hr)
noncomputable def f19 (x0 : Int64) (s : xS) : Option (xS × Int64) :=  whl (fun q : (Int64 × Int64 × Int32 × xS) => f19_9 q.1 q.2.1 q.2.2.1 q.2.2.2) (x0, (1 : Int64), (1000001 : Int32), s)
set_option maxRecDepth 20000 in
theorem s19 {sc : Option (Nat × (Nat → Int32))} {x0 : Int64} {s : xS} {r : xS × Int64} (h : f19 x0 s = some r) : Cl sc 1 19 [.long x0] (hk_of s) (hk_of r.1, some (.long r.2)) := by
  unfold f19 at h
  refine ⟨pg_md 19, [some (.long x0), none, none, none, none, none, none], pg_mt_md (by decide), rfl, rfl, ?_⟩
  generalize ho : ((hk_of r.1, some (Value.long r.2)) : xH × Option Value) = o
  have hr : dn19 o r := ho.symm
  refine E_blk rfl ?_
  refine E_ps 6 (pc' := 9) (l' := [some (.long x0), none, some (.long x0), none, some (.long (1 : Int64)), none, some (.int (1000001 : Int32))]) (st' := []) rfl ?_
  exact E_wk (l' := [none, none, some (.long x0), none, some (.long (1 : Int64)), none, some (.int (1000001 : Int32))]) ⟨rfl, rfl, rfl, trivial⟩ (s19_9_w  h hr)

-- 18: ThreePlates$Equations.keep(II)V
def dn18 (o : xH × Option Value) (r : xS × Unit) : Prop := o = (hk_of r.1, none)
def dn18_21 (sc : Option (Nat × (Nat → Int32))) (x0 : Nat) (x1 : Int32) (x2 : Int32) (x3 : Int64) (x5 : Int32) (o : xH × Option Value) (r : ((Int32 × xS) ⊕ (xS × Unit))) : Prop := match r with
  | .inl q => Ev sc 2 18 [] 21 [some (.ref x0), some (.int x1), some (.int x2), some (.long x3), none, some (.int x5), some (.int q.1)] [] (hk_of q.2) o
  | .inr r => dn18 o r
noncomputable def f18_21 (x0 : Nat) (x1 : Int32) (x2 : Int32) (x3 : Int64) (x5 : Int32) (x6 : Int32) (s : xS) : Option ((Int32 × xS) ⊕ (xS × Unit)) := if x2 ≤ x6 then (Option.map Sum.inr ((hk_R x0 4).bind fun a2 => (wB s a2 x1 (1 : Int32)).bind fun t4 => some (t4, ()))) else ((hk_R x0 3).bind fun a6 => (hk_R x0 5).bind fun a8 => (aI s a8 x6).bind fun v10 => (wI s a6 (x5 + x6) ((lrm (x3 * v10.toInt64) (1000003 : Int64))).toInt32).bind fun t12 => some (Sum.inl ((x6 + (1 : Int32)), t12)))
set_option maxRecDepth 20000 in
theorem s18_21 {sc : Option (Nat × (Nat → Int32))} {x0 : Nat} {x1 : Int32} {x2 : Int32} {x3 : Int64} {x5 : Int32} {x6 : Int32} {s : xS} {o : xH × Option Value} {r : ((Int32 × xS) ⊕ (xS × Unit))} (k0 : oK x0 1 = true) (h : f18_21 x0 x1 x2 x3 x5 x6 s = some r) (hr : dn18_21 sc x0 x1 x2 x3 x5 o r) : Ev sc 2 18 [] 21 [some (.ref x0), some (.int x1), some (.int x2), some (.long x3), none, some (.int x5), some (.int x6)] [] (hk_of s) o := by
  unfold f18_21 at h
  refine E_blk rfl ?_
  refine E_ps 2 (pc' := 24) (l' := [some (.ref x0), some (.int x1), some (.int x2), some (.long x3), none, some (.int x5), some (.int x6)]) (st' := [.int x2, .int x6]) rfl ?_
  by_cases c1 : x2 ≤ x6
  · rw [if_pos c1] at h
    refine E_jt rfl rfl c1 ?_
    obtain ⟨r, h, hr⟩ := lf_some (Dn := dn18_21 sc x0 x1 x2 x3 x5 o) h hr
    refine E_blk rfl ?_
    refine E_ps 1 (pc' := 59) (l' := [some (.ref x0), some (.int x1), some (.int x2), some (.long x3), none, some (.int x5), some (.int x6)]) (st' := [.ref x0]) rfl ?_
    obtain ⟨a2, e3, h⟩ := Option.bind_eq_some_iff.mp h
    refine E_gr k0 (by decide) rfl e3 ?_
    refine E_ps 2 (pc' := 64) (l' := [some (.ref x0), some (.int x1), some (.int x2), some (.long x3), none, some (.int x5), some (.int x6)]) (st' := [.int (1 : Int32), .int x1, .ref a2]) rfl ?_
    obtain ⟨t4, e5, h⟩ := Option.bind_eq_some_iff.mp h
    refine E_wb e5 ?_
    cases h
    exact E_ret rfl (pg_mt_md (by decide)) rfl hr
  · rw [if_neg c1] at h
    refine E_jf rfl rfl c1 ?_
    refine E_blk rfl ?_
    refine E_ps 1 (pc' := 28) (l' := [some (.ref x0), some (.int x1), some (.int x2), some (.long x3), none, some (.int x5), some (.int x6)]) (st' := [.ref x0]) rfl ?_
    obtain ⟨a6, e7, h⟩ := Option.bind_eq_some_iff.mp h
    refine E_gr k0 (by decide) rfl e7 ?_
    refine E_ps 5 (pc' := 38) (l' := [some (.ref x0), some (.int x1), some (.int x2), some (.long x3), none, some (.int x5), some (.int x6)]) (st' := [.ref x0, .long x3, .int (x5 + x6), .ref a6]) rfl ?_
    obtain ⟨a8, e9, h⟩ := Option.bind_eq_some_iff.mp h
    refine E_gr k0 (by decide) rfl e9 ?_
    refine E_ps 1 (pc' := 43) (l' := [some (.ref x0), some (.int x1), some (.int x2), some (.long x3), none, some (.int x5), some (.int x6)]) (st' := [.int x6, .ref a8, .long x3, .int (x5 + x6), .ref a6]) rfl ?_
    obtain ⟨v10, e11, h⟩ := Option.bind_eq_some_iff.mp h
    refine E_ai e11 ?_
    refine E_ps 3 (pc' := 49) (l' := [some (.ref x0), some (.int x1), some (.int x2), some (.long x3), none, some (.int x5), some (.int x6)]) (st' := [.long (1000003 : Int64), .long (x3 * v10.toInt64), .int (x5 + x6), .ref a6]) rfl ?_
    refine E_lrem (by decide) ?_
    refine E_ps 1 (pc' := 51) (l' := [some (.ref x0), some (.int x1), some (.int x2), some (.long x3), none, some (.int x5), some (.int x6)]) (st' := [.int ((lrm (x3 * v10.toInt64) (1000003 : Int64))).toInt32, .int (x5 + x6), .ref a6]) rfl ?_
    obtain ⟨t12, e13, h⟩ := Option.bind_eq_some_iff.mp h
    refine E_wi e13 ?_
    refine E_ps 1 (pc' := 55) (l' := [some (.ref x0), some (.int x1), some (.int x2), some (.long x3), none, some (.int x5), some (.int (x6 + (1 : Int32)))]) (st' := []) rfl ?_
    refine E_j rfl rfl ?_
    cases h
    exact E_wk (l' := [some (.ref x0), some (.int x1), some (.int x2), some (.long x3), none, some (.int x5), some (.int (x6 + (1 : Int32)))]) ⟨rfl, rfl, rfl, rfl, rfl, rfl, trivial⟩ hr
theorem s18_21_w {sc : Option (Nat × (Nat → Int32))} {x0 : Nat} {x1 : Int32} {x2 : Int32} {x3 : Int64} {x5 : Int32} {x6 : Int32} {s : xS} {o : xH × Option Value} {r : (xS × Unit)} (k0 : oK x0 1 = true) (h : whl (fun q : (Int32 × xS) => f18_21 x0 x1 x2 x3 x5 q.1 q.2) (x6, s) = some r) (hr : dn18 o r) : Ev sc 2 18 [] 21 [some (.ref x0), some (.int x1), some (.int x2), some (.long x3), none, some (.int x5), some (.int x6)] [] (hk_of s) o := by
  refine whl_snd (E := fun q : (Int32 × xS) => Ev sc 2 18 [] 21 [some (.ref x0), some (.int x1), some (.int x2), some (.long x3), none, some (.int x5), some (.int q.1)] [] (hk_of q.2) o) (P := fun r => dn18 o r) (fun q r h hr => ?_) h hr
  exact s18_21 k0 h (by cases r <;> exact hr)
noncomputable def f18 (x0 : Nat) (x1 : Int32) (x2 : Int32) (s : xS) : Option (xS × Unit) := ifg (oK x0 1 = true) <| (hk_R x0 5).bind fun a1 => (aI s a1 x1).bind fun v3 => (f19 v3.toInt64 s).bind fun z5 => whl (fun q : (Int32 × xS) => f18_21 x0 x1 x2 z5.2 (x1 * (130 : Int32)) q.1 q.2) (x1, z5.1)
set_option maxRecDepth 20000 in
theorem s18 {sc : Option (Nat × (Nat → Int32))} {x0 : Nat} {x1 : Int32} {x2 : Int32} {s : xS} {r : xS × Unit} (h : f18 x0 x1 x2 s = some r) : Cl sc 2 18 [.ref x0, .int x1, .int x2] (hk_of s) (hk_of r.1, none) := by
  unfold f18 at h
  obtain ⟨k0, h⟩ := ifg_some h
  refine ⟨pg_md 18, [some (.ref x0), some (.int x1), some (.int x2), none, none, none, none], pg_mt_md (by decide), (hk_rcv k0), rfl, ?_⟩
  generalize ho : ((hk_of r.1, none) : xH × Option Value) = o
  have hr : dn18 o r := ho.symm
  refine E_blk rfl ?_
  refine E_ps 1 (pc' := 1) (l' := [some (.ref x0), some (.int x1), some (.int x2), none, none, none, none]) (st' := [.ref x0]) rfl ?_
  obtain ⟨a1, e2, h⟩ := Option.bind_eq_some_iff.mp h
  refine E_gr k0 (by decide) rfl e2 ?_
  refine E_ps 1 (pc' := 5) (l' := [some (.ref x0), some (.int x1), some (.int x2), none, none, none, none]) (st' := [.int x1, .ref a1]) rfl ?_
  obtain ⟨v3, e4, h⟩ := Option.bind_eq_some_iff.mp h
  refine E_ai e4 ?_
  refine E_ps 1 (pc' := 7) (l' := [some (.ref x0), some (.int x1), some (.int x2), none, none, none, none]) (st' := [.long v3.toInt64]) rfl ?_
  obtain ⟨z5, e6, h⟩ := Option.bind_eq_some_iff.mp h
  refine E_callL (vs := [.long v3.toInt64]) (rest := []) rfl (by decide) rfl rfl (Nat.le_of_ble_eq_true rfl) (s19 e6) (by decide) ?_
  refine E_ps 7 (pc' := 21) (l' := [some (.ref x0), some (.int x1), some (.int x2), some (.long z5.2), none, some (.int (x1 * (130 : Int32))), some (.int x1)]) (st' := []) rfl ?_
  exact E_wk (l' := [some (.ref x0), some (.int x1), some (.int x2), some (.long z5.2), none, some (.int (x1 * (130 : Int32))), some (.int x1)]) ⟨rfl, rfl, rfl, rfl, rfl, rfl, trivial⟩ (s18_21_w k0 h hr)

-- 16: ThreePlates$Equations.isNew()Z
def dn16 (o : xH × Option Value) (r : xS × Int32) : Prop := o = (hk_of r.1, some (.int r.2))
def dn16_7 (sc : Option (Nat × (Nat → Int32))) (x0 : Nat) (x1 : Int32) (o : xH × Option Value) (r : ((Int32 × xS) ⊕ (xS × Int32))) : Prop := match r with
  | .inl q => Ev sc 3 16 [] 7 [some (.ref x0), some (.int x1), some (.int q.1)] [] (hk_of q.2) o
  | .inr r => dn16 o r
noncomputable def f16_47 (x0 : Nat) (x1 : Int32) (x2 : Int32) (s : xS) : Option ((Int32 × xS) ⊕ (xS × Int32)) := some (Sum.inl ((x2 + (1 : Int32)), s))
set_option maxRecDepth 20000 in
theorem s16_47 {sc : Option (Nat × (Nat → Int32))} {x0 : Nat} {x1 : Int32} {x2 : Int32} {s : xS} {o : xH × Option Value} {r : ((Int32 × xS) ⊕ (xS × Int32))} (k0 : oK x0 1 = true) (h : f16_47 x0 x1 x2 s = some r) (hr : dn16_7 sc x0 x1 o r) : Ev sc 3 16 [] 47 [some (.ref x0), some (.int x1), some (.int x2)] [] (hk_of s) o := by
  unfold f16_47 at h
  refine E_blk rfl ?_
  refine E_ps 1 (pc' := 50) (l' := [some (.ref x0), some (.int x1), some (.int (x2 + (1 : Int32)))]) (st' := []) rfl ?_
  refine E_j rfl rfl ?_
  cases h
  exact E_wk (l' := [some (.ref x0), some (.int x1), some (.int (x2 + (1 : Int32)))]) ⟨rfl, rfl, rfl, trivial⟩ hr
noncomputable def f16_7 (x0 : Nat) (x1 : Int32) (x2 : Int32) (s : xS) : Option ((Int32 × xS) ⊕ (xS × Int32)) := if x1 ≤ x2 then (Option.map Sum.inr (some (s, (0 : Int32)))) else ((hk_R x0 5).bind fun a2 => (aI s a2 x2).bind fun v4 => if v4 = 0 then (f16_47 x0 x1 x2 s) else ((hk_R x0 4).bind fun a7 => (aB s a7 x2).bind fun v9 => if v9 = 0 then (Option.map Sum.inr ((f18 x0 x2 x1 s).bind fun z12 => some (z12.1, (1 : Int32)))) else ((f17 x0 x2 x1 s).bind fun z14 => f16_47 x0 x1 x2 z14.1)))
set_option maxRecDepth 20000 in
theorem s16_7 {sc : Option (Nat × (Nat → Int32))} {x0 : Nat} {x1 : Int32} {x2 : Int32} {s : xS} {o : xH × Option Value} {r : ((Int32 × xS) ⊕ (xS × Int32))} (k0 : oK x0 1 = true) (h : f16_7 x0 x1 x2 s = some r) (hr : dn16_7 sc x0 x1 o r) : Ev sc 3 16 [] 7 [some (.ref x0), some (.int x1), some (.int x2)] [] (hk_of s) o := by
  unfold f16_7 at h
  refine E_blk rfl ?_
  refine E_ps 2 (pc' := 9) (l' := [some (.ref x0), some (.int x1), some (.int x2)]) (st' := [.int x1, .int x2]) rfl ?_
  by_cases c1 : x1 ≤ x2
  · rw [if_pos c1] at h
    refine E_jt rfl rfl c1 ?_
    obtain ⟨r, h, hr⟩ := lf_some (Dn := dn16_7 sc x0 x1 o) h hr
    refine E_blk rfl ?_
    refine E_ps 1 (pc' := 54) (l' := [some (.ref x0), some (.int x1), some (.int x2)]) (st' := [.int (0 : Int32)]) rfl ?_
    cases h
    exact E_ret rfl (pg_mt_md (by decide)) rfl hr
  · rw [if_neg c1] at h
    refine E_jf rfl rfl c1 ?_
    refine E_blk rfl ?_
    refine E_ps 1 (pc' := 13) (l' := [some (.ref x0), some (.int x1), some (.int x2)]) (st' := [.ref x0]) rfl ?_
    obtain ⟨a2, e3, h⟩ := Option.bind_eq_some_iff.mp h
    refine E_gr k0 (by decide) rfl e3 ?_
    refine E_ps 1 (pc' := 17) (l' := [some (.ref x0), some (.int x1), some (.int x2)]) (st' := [.int x2, .ref a2]) rfl ?_
    obtain ⟨v4, e5, h⟩ := Option.bind_eq_some_iff.mp h
    refine E_ai e5 ?_
    by_cases c6 : v4 = 0
    · rw [if_pos c6] at h
      refine E_jt rfl rfl c6 ?_
      refine E_blk rfl ?_
      refine E_j rfl rfl ?_
      exact E_wk (l' := [some (.ref x0), some (.int x1), some (.int x2)]) ⟨rfl, rfl, rfl, trivial⟩ (s16_47 k0 h hr)
    · rw [if_neg c6] at h
      refine E_jf rfl rfl c6 ?_
      refine E_blk rfl ?_
      refine E_ps 1 (pc' := 25) (l' := [some (.ref x0), some (.int x1), some (.int x2)]) (st' := [.ref x0]) rfl ?_
      obtain ⟨a7, e8, h⟩ := Option.bind_eq_some_iff.mp h
      refine E_gr k0 (by decide) rfl e8 ?_
      refine E_ps 1 (pc' := 29) (l' := [some (.ref x0), some (.int x1), some (.int x2)]) (st' := [.int x2, .ref a7]) rfl ?_
      obtain ⟨v9, e10, h⟩ := Option.bind_eq_some_iff.mp h
      refine E_ab e10 ?_
      by_cases c11 : v9 = 0
      · rw [if_pos c11] at h
        refine E_jt rfl rfl c11 ?_
        obtain ⟨r, h, hr⟩ := lf_some (Dn := dn16_7 sc x0 x1 o) h hr
        refine E_blk rfl ?_
        refine E_ps 3 (pc' := 36) (l' := [some (.ref x0), some (.int x1), some (.int x2)]) (st' := [.int x1, .int x2, .ref x0]) rfl ?_
        obtain ⟨z12, e13, h⟩ := Option.bind_eq_some_iff.mp h
        refine E_callV (vs := [.ref x0, .int x2, .int x1]) (rest := []) rfl (by decide) rfl rfl (Nat.le_of_ble_eq_true rfl) (s18 e13) (by decide) ?_
        refine E_ps 1 (pc' := 40) (l' := [some (.ref x0), some (.int x1), some (.int x2)]) (st' := [.int (1 : Int32)]) rfl ?_
        cases h
        exact E_ret rfl (pg_mt_md (by decide)) rfl hr
      · rw [if_neg c11] at h
        refine E_jf rfl rfl c11 ?_
        refine E_blk rfl ?_
        refine E_ps 3 (pc' := 44) (l' := [some (.ref x0), some (.int x1), some (.int x2)]) (st' := [.int x1, .int x2, .ref x0]) rfl ?_
        obtain ⟨z14, e15, h⟩ := Option.bind_eq_some_iff.mp h
        refine E_callV (vs := [.ref x0, .int x2, .int x1]) (rest := []) rfl (by decide) rfl rfl (Nat.le_of_ble_eq_true rfl) (s17 e15) (by decide) ?_
        exact E_wk (l' := [some (.ref x0), some (.int x1), some (.int x2)]) ⟨rfl, rfl, rfl, trivial⟩ (s16_47 k0 h hr)
theorem s16_7_w {sc : Option (Nat × (Nat → Int32))} {x0 : Nat} {x1 : Int32} {x2 : Int32} {s : xS} {o : xH × Option Value} {r : (xS × Int32)} (k0 : oK x0 1 = true) (h : whl (fun q : (Int32 × xS) => f16_7 x0 x1 q.1 q.2) (x2, s) = some r) (hr : dn16 o r) : Ev sc 3 16 [] 7 [some (.ref x0), some (.int x1), some (.int x2)] [] (hk_of s) o := by
  refine whl_snd (E := fun q : (Int32 × xS) => Ev sc 3 16 [] 7 [some (.ref x0), some (.int x1), some (.int q.1)] [] (hk_of q.2) o) (P := fun r => dn16 o r) (fun q r h hr => ?_) h hr
  exact s16_7 k0 h (by cases r <;> exact hr)
noncomputable def f16 (x0 : Nat) (s : xS) : Option (xS × Int32) := ifg (oK x0 1 = true) <| (f13 x0 s).bind fun z1 => whl (fun q : (Int32 × xS) => f16_7 x0 z1.2 q.1 q.2) ((0 : Int32), z1.1)
set_option maxRecDepth 20000 in
theorem s16 {sc : Option (Nat × (Nat → Int32))} {x0 : Nat} {s : xS} {r : xS × Int32} (h : f16 x0 s = some r) : Cl sc 3 16 [.ref x0] (hk_of s) (hk_of r.1, some (.int r.2)) := by
  unfold f16 at h
  obtain ⟨k0, h⟩ := ifg_some h
  refine ⟨pg_md 16, [some (.ref x0), none, none], pg_mt_md (by decide), (hk_rcv k0), rfl, ?_⟩
  generalize ho : ((hk_of r.1, some (Value.int r.2)) : xH × Option Value) = o
  have hr : dn16 o r := ho.symm
  refine E_blk rfl ?_
  refine E_ps 1 (pc' := 1) (l' := [some (.ref x0), none, none]) (st' := [.ref x0]) rfl ?_
  obtain ⟨z1, e2, h⟩ := Option.bind_eq_some_iff.mp h
  refine E_callI (vs := [.ref x0]) (rest := []) rfl (by decide) rfl rfl (Nat.le_of_ble_eq_true rfl) (s13 e2) (by decide) ?_
  refine E_ps 3 (pc' := 7) (l' := [some (.ref x0), some (.int z1.2), some (.int (0 : Int32))]) (st' := []) rfl ?_
  exact E_wk (l' := [some (.ref x0), some (.int z1.2), some (.int (0 : Int32))]) ⟨rfl, rfl, rfl, trivial⟩ (s16_7_w k0 h hr)

-- 28: ThreePlates$Laying.spotOf(IIII)I
def dn28 (o : xH × Option Value) (r : xS × Int32) : Prop := o = (hk_of r.1, some (.int r.2))
def dn28_39 (sc : Option (Nat × (Nat → Int32))) (x0 : Nat) (x2 : Int32) (x3 : Int32) (x4 : Int32) (x5 : Int32) (o : xH × Option Value) (r : ((Int32 × Int32 × Int32 × xS) ⊕ (xS × Int32))) : Prop := match r with
  | .inl q => Ev sc 1 28 [] 39 [some (.ref x0), none, some (.int x2), some (.int x3), some (.int x4), some (.int x5), some (.int q.1), some (.int q.2.1), some (.int q.2.2.1), none] [] (hk_of q.2.2.2) o
  | .inr r => dn28 o r
noncomputable def f28_132 (y0 : Int32) (s : xS) : Option (xS × Int32) := some (s, y0)
set_option maxRecDepth 20000 in
theorem s28_132 {sc : Option (Nat × (Nat → Int32))} {y0 : Int32} {s : xS} {o : xH × Option Value} {r : (xS × Int32)}  (h : f28_132 y0 s = some r) (hr : dn28 o r) : Ev sc 1 28 [] 132 [none, none, none, none, none, none, none, none, none, none] [.int y0] (hk_of s) o := by
  unfold f28_132 at h
  refine E_blk rfl ?_
  cases h
  exact E_ret rfl (pg_mt_md (by decide)) rfl hr
noncomputable def f28_108 (x0 : Nat) (x6 : Int32) (x7 : Int32) (y0 : Int32) (s : xS) : Option (xS × Int32) := if y0 = 0 then (f28_132 (-1 : Int32) s) else ((hk_R x0 0).bind fun a2 => f28_132 (((s.1 a2 3) * x7) + x6) s)
set_option maxRecDepth 20000 in
theorem s28_108 {sc : Option (Nat × (Nat → Int32))} {x0 : Nat} {x6 : Int32} {x7 : Int32} {y0 : Int32} {s : xS} {o : xH × Option Value} {r : (xS × Int32)} (k0 : oK x0 3 = true) (h : f28_108 x0 x6 x7 y0 s = some r) (hr : dn28 o r) : Ev sc 1 28 [] 108 [some (.ref x0), none, none, none, none, none, some (.int x6), some (.int x7), none, none] [.int y0] (hk_of s) o := by
  unfold f28_108 at h
  refine E_blk rfl ?_
  refine E_ps 2 (pc' := 112) (l' := [some (.ref x0), none, none, none, none, none, some (.int x6), some (.int x7), some (.int y0), none]) (st' := [.int y0]) rfl ?_
  by_cases c1 : y0 = 0
  · rw [if_pos c1] at h
    refine E_jt rfl rfl c1 ?_
    refine E_blk rfl ?_
    refine E_ps 1 (pc' := 132) (l' := [some (.ref x0), none, none, none, none, none, some (.int x6), some (.int x7), some (.int y0), none]) (st' := [.int (-1 : Int32)]) rfl ?_
    exact E_wk (l' := [none, none, none, none, none, none, none, none, none, none]) trivial (s28_132  h hr)
  · rw [if_neg c1] at h
    refine E_jf rfl rfl c1 ?_
    refine E_blk rfl ?_
    refine E_ps 1 (pc' := 116) (l' := [some (.ref x0), none, none, none, none, none, some (.int x6), some (.int x7), some (.int y0), none]) (st' := [.ref x0]) rfl ?_
    obtain ⟨a2, e3, h⟩ := Option.bind_eq_some_iff.mp h
    refine E_gr k0 (by decide) rfl e3 ?_
    have kf4 : oK a2 7 = true := hk_rty k0 e3 rfl (by decide)
    refine E_gi kf4 (by decide) rfl ?_
    refine E_ps 4 (pc' := 128) (l' := [some (.ref x0), none, none, none, none, none, some (.int x6), some (.int x7), some (.int y0), none]) (st' := [.int (((s.1 a2 3) * x7) + x6)]) rfl ?_
    refine E_j rfl rfl ?_
    exact E_wk (l' := [none, none, none, none, none, none, none, none, none, none]) trivial (s28_132  h hr)
noncomputable def f28_107 (x0 : Nat) (x6 : Int32) (x7 : Int32) (s : xS) : Option (xS × Int32) := f28_108 x0 x6 x7 (0 : Int32) s
set_option maxRecDepth 20000 in
theorem s28_107 {sc : Option (Nat × (Nat → Int32))} {x0 : Nat} {x6 : Int32} {x7 : Int32} {s : xS} {o : xH × Option Value} {r : (xS × Int32)} (k0 : oK x0 3 = true) (h : f28_107 x0 x6 x7 s = some r) (hr : dn28 o r) : Ev sc 1 28 [] 107 [some (.ref x0), none, none, none, none, none, some (.int x6), some (.int x7), none, none] [] (hk_of s) o := by
  unfold f28_107 at h
  refine E_blk rfl ?_
  refine E_ps 1 (pc' := 108) (l' := [some (.ref x0), none, none, none, none, none, some (.int x6), some (.int x7), none, none]) (st' := [.int (0 : Int32)]) rfl ?_
  exact E_wk (l' := [some (.ref x0), none, none, none, none, none, some (.int x6), some (.int x7), none, none]) ⟨rfl, rfl, rfl, trivial⟩ (s28_108 k0 h hr)
noncomputable def f28_39 (x0 : Nat) (x2 : Int32) (x3 : Int32) (x4 : Int32) (x5 : Int32) (x6 : Int32) (x7 : Int32) (x8 : Int32) (s : xS) : Option ((Int32 × Int32 × Int32 × xS) ⊕ (xS × Int32)) := if x2 ≤ x8 then (Option.map Sum.inr (if (x6 + x3) < 0 then (f28_107 x0 (x6 + x3) (x7 + x4) s) else (if x5 < (x6 + x3) then (f28_107 x0 (x6 + x3) (x7 + x4) s) else (if (x7 + x4) < 0 then (f28_107 x0 (x6 + x3) (x7 + x4) s) else (if x5 < (x7 + x4) then (f28_107 x0 (x6 + x3) (x7 + x4) s) else (f28_108 x0 (x6 + x3) (x7 + x4) (1 : Int32) s)))))) else (some (Sum.inl ((x5 - x7), x6, (x8 + (1 : Int32)), s)))
set_option maxRecDepth 20000 in
theorem s28_39 {sc : Option (Nat × (Nat → Int32))} {x0 : Nat} {x2 : Int32} {x3 : Int32} {x4 : Int32} {x5 : Int32} {x6 : Int32} {x7 : Int32} {x8 : Int32} {s : xS} {o : xH × Option Value} {r : ((Int32 × Int32 × Int32 × xS) ⊕ (xS × Int32))} (k0 : oK x0 3 = true) (h : f28_39 x0 x2 x3 x4 x5 x6 x7 x8 s = some r) (hr : dn28_39 sc x0 x2 x3 x4 x5 o r) : Ev sc 1 28 [] 39 [some (.ref x0), none, some (.int x2), some (.int x3), some (.int x4), some (.int x5), some (.int x6), some (.int x7), some (.int x8), none] [] (hk_of s) o := by
  unfold f28_39 at h
  refine E_blk rfl ?_
  refine E_ps 2 (pc' := 42) (l' := [some (.ref x0), none, some (.int x2), some (.int x3), some (.int x4), some (.int x5), some (.int x6), some (.int x7), some (.int x8), none]) (st' := [.int x2, .int x8]) rfl ?_
  by_cases c1 : x2 ≤ x8
  · rw [if_pos c1] at h
    refine E_jt rfl rfl c1 ?_
    obtain ⟨r, h, hr⟩ := lf_some (Dn := dn28_39 sc x0 x2 x3 x4 x5 o) h hr
    refine E_blk rfl ?_
    refine E_ps 9 (pc' := 81) (l' := [some (.ref x0), none, some (.int x2), some (.int x3), some (.int x4), some (.int x5), some (.int (x6 + x3)), some (.int (x7 + x4)), some (.int x8), none]) (st' := [.int (x6 + x3)]) rfl ?_
    by_cases c2 : (x6 + x3) < 0
    · rw [if_pos c2] at h
      refine E_jt rfl rfl c2 ?_
      exact E_wk (l' := [some (.ref x0), none, none, none, none, none, some (.int (x6 + x3)), some (.int (x7 + x4)), none, none]) ⟨rfl, rfl, rfl, trivial⟩ (s28_107 k0 h hr)
    · rw [if_neg c2] at h
      refine E_jf rfl rfl c2 ?_
      refine E_blk rfl ?_
      refine E_ps 2 (pc' := 88) (l' := [some (.ref x0), none, some (.int x2), some (.int x3), some (.int x4), some (.int x5), some (.int (x6 + x3)), some (.int (x7 + x4)), some (.int x8), none]) (st' := [.int x5, .int (x6 + x3)]) rfl ?_
      by_cases c3 : x5 < (x6 + x3)
      · rw [if_pos c3] at h
        refine E_jt rfl rfl c3 ?_
        exact E_wk (l' := [some (.ref x0), none, none, none, none, none, some (.int (x6 + x3)), some (.int (x7 + x4)), none, none]) ⟨rfl, rfl, rfl, trivial⟩ (s28_107 k0 h hr)
      · rw [if_neg c3] at h
        refine E_jf rfl rfl c3 ?_
        refine E_blk rfl ?_
        refine E_ps 1 (pc' := 93) (l' := [some (.ref x0), none, some (.int x2), some (.int x3), some (.int x4), some (.int x5), some (.int (x6 + x3)), some (.int (x7 + x4)), some (.int x8), none]) (st' := [.int (x7 + x4)]) rfl ?_
        by_cases c4 : (x7 + x4) < 0
        · rw [if_pos c4] at h
          refine E_jt rfl rfl c4 ?_
          exact E_wk (l' := [some (.ref x0), none, none, none, none, none, some (.int (x6 + x3)), some (.int (x7 + x4)), none, none]) ⟨rfl, rfl, rfl, trivial⟩ (s28_107 k0 h hr)
        · rw [if_neg c4] at h
          refine E_jf rfl rfl c4 ?_
          refine E_blk rfl ?_
          refine E_ps 2 (pc' := 100) (l' := [some (.ref x0), none, some (.int x2), some (.int x3), some (.int x4), some (.int x5), some (.int (x6 + x3)), some (.int (x7 + x4)), some (.int x8), none]) (st' := [.int x5, .int (x7 + x4)]) rfl ?_
          by_cases c5 : x5 < (x7 + x4)
          · rw [if_pos c5] at h
            refine E_jt rfl rfl c5 ?_
            exact E_wk (l' := [some (.ref x0), none, none, none, none, none, some (.int (x6 + x3)), some (.int (x7 + x4)), none, none]) ⟨rfl, rfl, rfl, trivial⟩ (s28_107 k0 h hr)
          · rw [if_neg c5] at h
            refine E_jf rfl rfl c5 ?_
            refine E_blk rfl ?_
            refine E_ps 1 (pc' := 104) (l' := [some (.ref x0), none, some (.int x2), some (.int x3), some (.int x4), some (.int x5), some (.int (x6 + x3)), some (.int (x7 + x4)), some (.int x8), none]) (st' := [.int (1 : Int32)]) rfl ?_
            refine E_j rfl rfl ?_
            exact E_wk (l' := [some (.ref x0), none, none, none, none, none, some (.int (x6 + x3)), some (.int (x7 + x4)), none, none]) ⟨rfl, rfl, rfl, trivial⟩ (s28_108 k0 h hr)
  · rw [if_neg c1] at h
    refine E_jf rfl rfl c1 ?_
    refine E_blk rfl ?_
    refine E_ps 9 (pc' := 63) (l' := [some (.ref x0), none, some (.int x2), some (.int x3), some (.int x4), some (.int x5), some (.int (x5 - x7)), some (.int x6), some (.int (x8 + (1 : Int32))), some (.int (x5 - x7))]) (st' := []) rfl ?_
    refine E_j rfl rfl ?_
    cases h
    exact E_wk (l' := [some (.ref x0), none, some (.int x2), some (.int x3), some (.int x4), some (.int x5), some (.int (x5 - x7)), some (.int x6), some (.int (x8 + (1 : Int32))), none]) ⟨rfl, rfl, rfl, rfl, rfl, rfl, rfl, rfl, trivial⟩ hr
theorem s28_39_w {sc : Option (Nat × (Nat → Int32))} {x0 : Nat} {x2 : Int32} {x3 : Int32} {x4 : Int32} {x5 : Int32} {x6 : Int32} {x7 : Int32} {x8 : Int32} {s : xS} {o : xH × Option Value} {r : (xS × Int32)} (k0 : oK x0 3 = true) (h : whl (fun q : (Int32 × Int32 × Int32 × xS) => f28_39 x0 x2 x3 x4 x5 q.1 q.2.1 q.2.2.1 q.2.2.2) (x6, x7, x8, s) = some r) (hr : dn28 o r) : Ev sc 1 28 [] 39 [some (.ref x0), none, some (.int x2), some (.int x3), some (.int x4), some (.int x5), some (.int x6), some (.int x7), some (.int x8), none] [] (hk_of s) o := by
  refine whl_snd (E := fun q : (Int32 × Int32 × Int32 × xS) => Ev sc 1 28 [] 39 [some (.ref x0), none, some (.int x2), some (.int x3), some (.int x4), some (.int x5), some (.int q.1), some (.int q.2.1), some (.int q.2.2.1), none] [] (hk_of q.2.2.2) o) (P := fun r => dn28 o r) (fun q r h hr => ?_) h hr
  exact s28_39 k0 h (by cases r <;> exact hr)
noncomputable def f28 (x0 : Nat) (x1 : Int32) (x2 : Int32) (x3 : Int32) (x4 : Int32) (s : xS) : Option (xS × Int32) := ifg (oK x0 3 = true) <| (hk_R x0 0).bind fun a1 => (hk_R x0 0).bind fun a4 => ifg (¬ (s.1 a4 3) = 0) <| (hk_R x0 0).bind fun a8 => ifg (¬ (s.1 a8 3) = 0) <| whl (fun q : (Int32 × Int32 × Int32 × xS) => f28_39 x0 x2 x3 x4 ((s.1 a1 3) - (1 : Int32)) q.1 q.2.1 q.2.2.1 q.2.2.2) ((((s.1 a1 3) - (1 : Int32)) - (irm x1 (s.1 a4 3))), (x1 / (s.1 a8 3)), (0 : Int32), s)
set_option maxRecDepth 20000 in
theorem s28 {sc : Option (Nat × (Nat → Int32))} {x0 : Nat} {x1 : Int32} {x2 : Int32} {x3 : Int32} {x4 : Int32} {s : xS} {r : xS × Int32} (h : f28 x0 x1 x2 x3 x4 s = some r) : Cl sc 1 28 [.ref x0, .int x1, .int x2, .int x3, .int x4] (hk_of s) (hk_of r.1, some (.int r.2)) := by
  unfold f28 at h
  obtain ⟨k0, h⟩ := ifg_some h
  refine ⟨pg_md 28, [some (.ref x0), some (.int x1), some (.int x2), some (.int x3), some (.int x4), none, none, none, none, none], pg_mt_md (by decide), (hk_rcv k0), rfl, ?_⟩
  generalize ho : ((hk_of r.1, some (Value.int r.2)) : xH × Option Value) = o
  have hr : dn28 o r := ho.symm
  refine E_blk rfl ?_
  refine E_ps 1 (pc' := 1) (l' := [some (.ref x0), some (.int x1), some (.int x2), some (.int x3), some (.int x4), none, none, none, none, none]) (st' := [.ref x0]) rfl ?_
  obtain ⟨a1, e2, h⟩ := Option.bind_eq_some_iff.mp h
  refine E_gr k0 (by decide) rfl e2 ?_
  have kf3 : oK a1 7 = true := hk_rty k0 e2 rfl (by decide)
  refine E_gi kf3 (by decide) rfl ?_
  refine E_ps 6 (pc' := 15) (l' := [some (.ref x0), some (.int x1), some (.int x2), some (.int x3), some (.int x4), some (.int ((s.1 a1 3) - (1 : Int32))), none, none, none, none]) (st' := [.ref x0, .int x1, .int ((s.1 a1 3) - (1 : Int32))]) rfl ?_
  obtain ⟨a4, e5, h⟩ := Option.bind_eq_some_iff.mp h
  refine E_gr k0 (by decide) rfl e5 ?_
  have kf6 : oK a4 7 = true := hk_rty k0 e5 rfl (by decide)
  refine E_gi kf6 (by decide) rfl ?_
  obtain ⟨g7, h⟩ := ifg_some h
  refine E_irem g7 ?_
  refine E_ps 4 (pc' := 27) (l' := [some (.ref x0), some (.int x1), some (.int x2), some (.int x3), some (.int x4), some (.int ((s.1 a1 3) - (1 : Int32))), some (.int (((s.1 a1 3) - (1 : Int32)) - (irm x1 (s.1 a4 3)))), none, none, none]) (st' := [.ref x0, .int x1]) rfl ?_
  obtain ⟨a8, e9, h⟩ := Option.bind_eq_some_iff.mp h
  refine E_gr k0 (by decide) rfl e9 ?_
  have kf10 : oK a8 7 = true := hk_rty k0 e9 rfl (by decide)
  refine E_gi kf10 (by decide) rfl ?_
  obtain ⟨g11, h⟩ := ifg_some h
  refine E_idiv g11 ?_
  refine E_ps 3 (pc' := 39) (l' := [some (.ref x0), some (.int x1), some (.int x2), some (.int x3), some (.int x4), some (.int ((s.1 a1 3) - (1 : Int32))), some (.int (((s.1 a1 3) - (1 : Int32)) - (irm x1 (s.1 a4 3)))), some (.int (x1 / (s.1 a8 3))), some (.int (0 : Int32)), none]) (st' := []) rfl ?_
  exact E_wk (l' := [some (.ref x0), none, some (.int x2), some (.int x3), some (.int x4), some (.int ((s.1 a1 3) - (1 : Int32))), some (.int (((s.1 a1 3) - (1 : Int32)) - (irm x1 (s.1 a4 3)))), some (.int (x1 / (s.1 a8 3))), some (.int (0 : Int32)), none]) ⟨rfl, rfl, rfl, rfl, rfl, rfl, rfl, rfl, trivial⟩ (s28_39_w k0 h hr)

-- 27: ThreePlates$Laying.match(III)V
def dn27 (o : xH × Option Value) (r : xS × Unit) : Prop := o = (hk_of r.1, none)
def dn27_11 (sc : Option (Nat × (Nat → Int32))) (x0 : Nat) (x1 : Int32) (x2 : Int32) (x3 : Int32) (o : xH × Option Value) (r : ((Int32 × xS) ⊕ (xS × Unit))) : Prop := match r with
  | .inl q => Ev sc 2 27 [] 11 [some (.ref x0), some (.int x1), some (.int x2), some (.int x3), some (.int q.1), none] [] (hk_of q.2) o
  | .inr r => dn27 o r
def dn27_63 (sc : Option (Nat × (Nat → Int32))) (x0 : Nat) (o : xH × Option Value) (r : ((Int32 × xS) ⊕ (xS × Unit))) : Prop := match r with
  | .inl q => Ev sc 2 27 [] 63 [some (.ref x0), none, none, none, some (.int q.1), none] [] (hk_of q.2) o
  | .inr r => dn27 o r
noncomputable def f27_123 (x0 : Nat) (x4 : Int32) (s : xS) : Option ((Int32 × xS) ⊕ (xS × Unit)) := some (Sum.inl ((x4 + (1 : Int32)), s))
set_option maxRecDepth 20000 in
theorem s27_123 {sc : Option (Nat × (Nat → Int32))} {x0 : Nat} {x4 : Int32} {s : xS} {o : xH × Option Value} {r : ((Int32 × xS) ⊕ (xS × Unit))} (k0 : oK x0 3 = true) (h : f27_123 x0 x4 s = some r) (hr : dn27_63 sc x0 o r) : Ev sc 2 27 [] 123 [some (.ref x0), none, none, none, some (.int x4), none] [] (hk_of s) o := by
  unfold f27_123 at h
  refine E_blk rfl ?_
  refine E_ps 1 (pc' := 126) (l' := [some (.ref x0), none, none, none, some (.int (x4 + (1 : Int32))), none]) (st' := []) rfl ?_
  refine E_j rfl rfl ?_
  cases h
  exact E_wk (l' := [some (.ref x0), none, none, none, some (.int (x4 + (1 : Int32))), none]) ⟨rfl, rfl, trivial⟩ hr
noncomputable def f27_49 (x0 : Nat) (x1 : Int32) (x2 : Int32) (x3 : Int32) (x4 : Int32) (s : xS) : Option ((Int32 × xS) ⊕ (xS × Unit)) := some (Sum.inl ((x4 + (1 : Int32)), s))
set_option maxRecDepth 20000 in
theorem s27_49 {sc : Option (Nat × (Nat → Int32))} {x0 : Nat} {x1 : Int32} {x2 : Int32} {x3 : Int32} {x4 : Int32} {s : xS} {o : xH × Option Value} {r : ((Int32 × xS) ⊕ (xS × Unit))} (k0 : oK x0 3 = true) (h : f27_49 x0 x1 x2 x3 x4 s = some r) (hr : dn27_11 sc x0 x1 x2 x3 o r) : Ev sc 2 27 [] 49 [some (.ref x0), some (.int x1), some (.int x2), some (.int x3), some (.int x4), none] [] (hk_of s) o := by
  unfold f27_49 at h
  refine E_blk rfl ?_
  refine E_ps 1 (pc' := 52) (l' := [some (.ref x0), some (.int x1), some (.int x2), some (.int x3), some (.int (x4 + (1 : Int32))), none]) (st' := []) rfl ?_
  refine E_j rfl rfl ?_
  cases h
  exact E_wk (l' := [some (.ref x0), some (.int x1), some (.int x2), some (.int x3), some (.int (x4 + (1 : Int32))), none]) ⟨rfl, rfl, rfl, rfl, rfl, trivial⟩ hr
noncomputable def f27_63 (x0 : Nat) (x4 : Int32) (s : xS) : Option ((Int32 × xS) ⊕ (xS × Unit)) := (hk_R x0 0).bind fun a1 => (f68 a1 s).bind fun z4 => if z4.2 ≤ x4 then (Option.map Sum.inr (some (z4.1, ()))) else ((hk_R x0 4).bind fun a7 => (aI z4.1 a7 x4).bind fun v9 => if v9 = (-1 : Int32) then (f27_123 x0 x4 z4.1) else ((hk_R x0 5).bind fun a12 => (wI z4.1 a12 (z4.1.1 x0 7) x4).bind fun t14 => (hk_R x0 6).bind fun a16 => (hk_R x0 4).bind fun a18 => (aI t14 a18 x4).bind fun v20 => (wI t14 a16 (t14.1 x0 7) v20).bind fun t22 => (pI t22 x0 7 ((t22.1 x0 7) + (1 : Int32))).bind fun t24 => f27_123 x0 x4 t24))
set_option maxRecDepth 20000 in
theorem s27_63 {sc : Option (Nat × (Nat → Int32))} {x0 : Nat} {x4 : Int32} {s : xS} {o : xH × Option Value} {r : ((Int32 × xS) ⊕ (xS × Unit))} (k0 : oK x0 3 = true) (h : f27_63 x0 x4 s = some r) (hr : dn27_63 sc x0 o r) : Ev sc 2 27 [] 63 [some (.ref x0), none, none, none, some (.int x4), none] [] (hk_of s) o := by
  unfold f27_63 at h
  refine E_blk rfl ?_
  refine E_ps 2 (pc' := 66) (l' := [some (.ref x0), none, none, none, some (.int x4), none]) (st' := [.ref x0, .int x4]) rfl ?_
  obtain ⟨a1, e2, h⟩ := Option.bind_eq_some_iff.mp h
  refine E_gr k0 (by decide) rfl e2 ?_
  have kf3 : oK a1 7 = true := hk_rty k0 e2 rfl (by decide)
  obtain ⟨z4, e5, h⟩ := Option.bind_eq_some_iff.mp h
  refine E_callI (vs := [.ref a1]) (rest := [.int x4]) rfl (by decide) rfl rfl (Nat.le_of_ble_eq_true rfl) (s68 e5) (by decide) ?_
  by_cases c6 : z4.2 ≤ x4
  · rw [if_pos c6] at h
    refine E_jt rfl rfl c6 ?_
    obtain ⟨r, h, hr⟩ := lf_some (Dn := dn27_63 sc x0 o) h hr
    refine E_blk rfl ?_
    cases h
    exact E_ret rfl (pg_mt_md (by decide)) rfl hr
  · rw [if_neg c6] at h
    refine E_jf rfl rfl c6 ?_
    refine E_blk rfl ?_
    refine E_ps 1 (pc' := 76) (l' := [some (.ref x0), none, none, none, some (.int x4), none]) (st' := [.ref x0]) rfl ?_
    obtain ⟨a7, e8, h⟩ := Option.bind_eq_some_iff.mp h
    refine E_gr k0 (by decide) rfl e8 ?_
    refine E_ps 1 (pc' := 81) (l' := [some (.ref x0), none, none, none, some (.int x4), none]) (st' := [.int x4, .ref a7]) rfl ?_
    obtain ⟨v9, e10, h⟩ := Option.bind_eq_some_iff.mp h
    refine E_ai e10 ?_
    refine E_ps 1 (pc' := 83) (l' := [some (.ref x0), none, none, none, some (.int x4), none]) (st' := [.int (-1 : Int32), .int v9]) rfl ?_
    by_cases c11 : v9 = (-1 : Int32)
    · rw [if_pos c11] at h
      refine E_jt rfl rfl c11 ?_
      exact E_wk (l' := [some (.ref x0), none, none, none, some (.int x4), none]) ⟨rfl, rfl, trivial⟩ (s27_123 k0 h hr)
    · rw [if_neg c11] at h
      refine E_jf rfl rfl c11 ?_
      refine E_blk rfl ?_
      refine E_ps 1 (pc' := 87) (l' := [some (.ref x0), none, none, none, some (.int x4), none]) (st' := [.ref x0]) rfl ?_
      obtain ⟨a12, e13, h⟩ := Option.bind_eq_some_iff.mp h
      refine E_gr k0 (by decide) rfl e13 ?_
      refine E_ps 1 (pc' := 91) (l' := [some (.ref x0), none, none, none, some (.int x4), none]) (st' := [.ref x0, .ref a12]) rfl ?_
      refine E_gi k0 (by decide) rfl ?_
      refine E_ps 1 (pc' := 96) (l' := [some (.ref x0), none, none, none, some (.int x4), none]) (st' := [.int x4, .int (z4.1.1 x0 7), .ref a12]) rfl ?_
      obtain ⟨t14, e15, h⟩ := Option.bind_eq_some_iff.mp h
      refine E_wi e15 ?_
      refine E_ps 1 (pc' := 98) (l' := [some (.ref x0), none, none, none, some (.int x4), none]) (st' := [.ref x0]) rfl ?_
      obtain ⟨a16, e17, h⟩ := Option.bind_eq_some_iff.mp h
      refine E_gr k0 (by decide) rfl e17 ?_
      refine E_ps 1 (pc' := 102) (l' := [some (.ref x0), none, none, none, some (.int x4), none]) (st' := [.ref x0, .ref a16]) rfl ?_
      refine E_gi k0 (by decide) rfl ?_
      refine E_ps 1 (pc' := 106) (l' := [some (.ref x0), none, none, none, some (.int x4), none]) (st' := [.ref x0, .int (t14.1 x0 7), .ref a16]) rfl ?_
      obtain ⟨a18, e19, h⟩ := Option.bind_eq_some_iff.mp h
      refine E_gr k0 (by decide) rfl e19 ?_
      refine E_ps 1 (pc' := 111) (l' := [some (.ref x0), none, none, none, some (.int x4), none]) (st' := [.int x4, .ref a18, .int (t14.1 x0 7), .ref a16]) rfl ?_
      obtain ⟨v20, e21, h⟩ := Option.bind_eq_some_iff.mp h
      refine E_ai e21 ?_
      obtain ⟨t22, e23, h⟩ := Option.bind_eq_some_iff.mp h
      refine E_wi e23 ?_
      refine E_ps 2 (pc' := 115) (l' := [some (.ref x0), none, none, none, some (.int x4), none]) (st' := [.ref x0, .ref x0]) rfl ?_
      refine E_gi k0 (by decide) rfl ?_
      refine E_ps 2 (pc' := 120) (l' := [some (.ref x0), none, none, none, some (.int x4), none]) (st' := [.int ((t22.1 x0 7) + (1 : Int32)), .ref x0]) rfl ?_
      obtain ⟨t24, e25, h⟩ := Option.bind_eq_some_iff.mp h
      refine E_pi k0 (by decide) rfl e25 ?_
      exact E_wk (l' := [some (.ref x0), none, none, none, some (.int x4), none]) ⟨rfl, rfl, trivial⟩ (s27_123 k0 h hr)
theorem s27_63_w {sc : Option (Nat × (Nat → Int32))} {x0 : Nat} {x4 : Int32} {s : xS} {o : xH × Option Value} {r : (xS × Unit)} (k0 : oK x0 3 = true) (h : whl (fun q : (Int32 × xS) => f27_63 x0 q.1 q.2) (x4, s) = some r) (hr : dn27 o r) : Ev sc 2 27 [] 63 [some (.ref x0), none, none, none, some (.int x4), none] [] (hk_of s) o := by
  refine whl_snd (E := fun q : (Int32 × xS) => Ev sc 2 27 [] 63 [some (.ref x0), none, none, none, some (.int q.1), none] [] (hk_of q.2) o) (P := fun r => dn27 o r) (fun q r h hr => ?_) h hr
  exact s27_63 k0 h (by cases r <;> exact hr)
noncomputable def f27_11 (x0 : Nat) (x1 : Int32) (x2 : Int32) (x3 : Int32) (x4 : Int32) (s : xS) : Option ((Int32 × xS) ⊕ (xS × Unit)) := (hk_R x0 0).bind fun a1 => (f68 a1 s).bind fun z4 => if z4.2 ≤ x4 then (Option.map Sum.inr ((pI z4.1 x0 7 (0 : Int32)).bind fun t7 => whl (fun q : (Int32 × xS) => f27_63 x0 q.1 q.2) ((0 : Int32), t7))) else ((f28 x0 x4 x1 x2 x3 z4.1).bind fun z9 => if z9.2 = (-1 : Int32) then (f27_49 x0 x1 x2 x3 x4 z9.1) else ((hk_R x0 4).bind fun a12 => (wI z9.1 a12 z9.2 x4).bind fun t14 => f27_49 x0 x1 x2 x3 x4 t14))
set_option maxRecDepth 20000 in
theorem s27_11 {sc : Option (Nat × (Nat → Int32))} {x0 : Nat} {x1 : Int32} {x2 : Int32} {x3 : Int32} {x4 : Int32} {s : xS} {o : xH × Option Value} {r : ((Int32 × xS) ⊕ (xS × Unit))} (k0 : oK x0 3 = true) (h : f27_11 x0 x1 x2 x3 x4 s = some r) (hr : dn27_11 sc x0 x1 x2 x3 o r) : Ev sc 2 27 [] 11 [some (.ref x0), some (.int x1), some (.int x2), some (.int x3), some (.int x4), none] [] (hk_of s) o := by
  unfold f27_11 at h
  refine E_blk rfl ?_
  refine E_ps 2 (pc' := 14) (l' := [some (.ref x0), some (.int x1), some (.int x2), some (.int x3), some (.int x4), none]) (st' := [.ref x0, .int x4]) rfl ?_
  obtain ⟨a1, e2, h⟩ := Option.bind_eq_some_iff.mp h
  refine E_gr k0 (by decide) rfl e2 ?_
  have kf3 : oK a1 7 = true := hk_rty k0 e2 rfl (by decide)
  obtain ⟨z4, e5, h⟩ := Option.bind_eq_some_iff.mp h
  refine E_callI (vs := [.ref a1]) (rest := [.int x4]) rfl (by decide) rfl rfl (Nat.le_of_ble_eq_true rfl) (s68 e5) (by decide) ?_
  by_cases c6 : z4.2 ≤ x4
  · rw [if_pos c6] at h
    refine E_jt rfl rfl c6 ?_
    obtain ⟨r, h, hr⟩ := lf_some (Dn := dn27_11 sc x0 x1 x2 x3 o) h hr
    refine E_blk rfl ?_
    refine E_ps 2 (pc' := 57) (l' := [some (.ref x0), some (.int x1), some (.int x2), some (.int x3), some (.int x4), none]) (st' := [.int (0 : Int32), .ref x0]) rfl ?_
    obtain ⟨t7, e8, h⟩ := Option.bind_eq_some_iff.mp h
    refine E_pi k0 (by decide) rfl e8 ?_
    refine E_ps 2 (pc' := 63) (l' := [some (.ref x0), some (.int x1), some (.int x2), some (.int x3), some (.int (0 : Int32)), none]) (st' := []) rfl ?_
    exact E_wk (l' := [some (.ref x0), none, none, none, some (.int (0 : Int32)), none]) ⟨rfl, rfl, trivial⟩ (s27_63_w k0 h hr)
  · rw [if_neg c6] at h
    refine E_jf rfl rfl c6 ?_
    refine E_blk rfl ?_
    refine E_ps 5 (pc' := 29) (l' := [some (.ref x0), some (.int x1), some (.int x2), some (.int x3), some (.int x4), none]) (st' := [.int x3, .int x2, .int x1, .int x4, .ref x0]) rfl ?_
    obtain ⟨z9, e10, h⟩ := Option.bind_eq_some_iff.mp h
    refine E_callI (vs := [.ref x0, .int x4, .int x1, .int x2, .int x3]) (rest := []) rfl (by decide) rfl rfl (Nat.le_of_ble_eq_true rfl) (s28 e10) (by decide) ?_
    refine E_ps 3 (pc' := 37) (l' := [some (.ref x0), some (.int x1), some (.int x2), some (.int x3), some (.int x4), some (.int z9.2)]) (st' := [.int (-1 : Int32), .int z9.2]) rfl ?_
    by_cases c11 : z9.2 = (-1 : Int32)
    · rw [if_pos c11] at h
      refine E_jt rfl rfl c11 ?_
      exact E_wk (l' := [some (.ref x0), some (.int x1), some (.int x2), some (.int x3), some (.int x4), none]) ⟨rfl, rfl, rfl, rfl, rfl, trivial⟩ (s27_49 k0 h hr)
    · rw [if_neg c11] at h
      refine E_jf rfl rfl c11 ?_
      refine E_blk rfl ?_
      refine E_ps 1 (pc' := 41) (l' := [some (.ref x0), some (.int x1), some (.int x2), some (.int x3), some (.int x4), some (.int z9.2)]) (st' := [.ref x0]) rfl ?_
      obtain ⟨a12, e13, h⟩ := Option.bind_eq_some_iff.mp h
      refine E_gr k0 (by decide) rfl e13 ?_
      refine E_ps 2 (pc' := 48) (l' := [some (.ref x0), some (.int x1), some (.int x2), some (.int x3), some (.int x4), some (.int z9.2)]) (st' := [.int x4, .int z9.2, .ref a12]) rfl ?_
      obtain ⟨t14, e15, h⟩ := Option.bind_eq_some_iff.mp h
      refine E_wi e15 ?_
      exact E_wk (l' := [some (.ref x0), some (.int x1), some (.int x2), some (.int x3), some (.int x4), none]) ⟨rfl, rfl, rfl, rfl, rfl, trivial⟩ (s27_49 k0 h hr)
theorem s27_11_w {sc : Option (Nat × (Nat → Int32))} {x0 : Nat} {x1 : Int32} {x2 : Int32} {x3 : Int32} {x4 : Int32} {s : xS} {o : xH × Option Value} {r : (xS × Unit)} (k0 : oK x0 3 = true) (h : whl (fun q : (Int32 × xS) => f27_11 x0 x1 x2 x3 q.1 q.2) (x4, s) = some r) (hr : dn27 o r) : Ev sc 2 27 [] 11 [some (.ref x0), some (.int x1), some (.int x2), some (.int x3), some (.int x4), none] [] (hk_of s) o := by
  refine whl_snd (E := fun q : (Int32 × xS) => Ev sc 2 27 [] 11 [some (.ref x0), some (.int x1), some (.int x2), some (.int x3), some (.int q.1), none] [] (hk_of q.2) o) (P := fun r => dn27 o r) (fun q r h hr => ?_) h hr
  exact s27_11 k0 h (by cases r <;> exact hr)
noncomputable def f27 (x0 : Nat) (x1 : Int32) (x2 : Int32) (x3 : Int32) (s : xS) : Option (xS × Unit) := ifg (oK x0 3 = true) <| (hk_R x0 4).bind fun a1 => (f286 a1 (-1 : Int32) s).bind fun z3 => whl (fun q : (Int32 × xS) => f27_11 x0 x1 x2 x3 q.1 q.2) ((0 : Int32), z3.1)
set_option maxRecDepth 20000 in
theorem s27 {sc : Option (Nat × (Nat → Int32))} {x0 : Nat} {x1 : Int32} {x2 : Int32} {x3 : Int32} {s : xS} {r : xS × Unit} (h : f27 x0 x1 x2 x3 s = some r) : Cl sc 2 27 [.ref x0, .int x1, .int x2, .int x3] (hk_of s) (hk_of r.1, none) := by
  unfold f27 at h
  obtain ⟨k0, h⟩ := ifg_some h
  refine ⟨pg_md 27, [some (.ref x0), some (.int x1), some (.int x2), some (.int x3), none, none], pg_mt_md (by decide), (hk_rcv k0), rfl, ?_⟩
  generalize ho : ((hk_of r.1, none) : xH × Option Value) = o
  have hr : dn27 o r := ho.symm
  refine E_blk rfl ?_
  refine E_ps 1 (pc' := 1) (l' := [some (.ref x0), some (.int x1), some (.int x2), some (.int x3), none, none]) (st' := [.ref x0]) rfl ?_
  obtain ⟨a1, e2, h⟩ := Option.bind_eq_some_iff.mp h
  refine E_gr k0 (by decide) rfl e2 ?_
  refine E_ps 1 (pc' := 5) (l' := [some (.ref x0), some (.int x1), some (.int x2), some (.int x3), none, none]) (st' := [.int (-1 : Int32), .ref a1]) rfl ?_
  obtain ⟨z3, e4, h⟩ := Option.bind_eq_some_iff.mp h
  refine E_callV (vs := [.ref a1, .int (-1 : Int32)]) (rest := []) rfl (by decide) rfl rfl (Nat.le_of_ble_eq_true rfl) (s286 e4) (by decide) ?_
  refine E_ps 2 (pc' := 11) (l' := [some (.ref x0), some (.int x1), some (.int x2), some (.int x3), some (.int (0 : Int32)), none]) (st' := []) rfl ?_
  exact E_wk (l' := [some (.ref x0), some (.int x1), some (.int x2), some (.int x3), some (.int (0 : Int32)), none]) ⟨rfl, rfl, rfl, rfl, rfl, trivial⟩ (s27_11_w k0 h hr)

-- 14: ThreePlates$Equations.rank()I
def dn14 (o : xH × Option Value) (r : xS × Int32) : Prop := o = (hk_of r.1, some (.int r.2))
def dn14_2 (sc : Option (Nat × (Nat → Int32))) (x0 : Nat) (o : xH × Option Value) (r : ((Int32 × xS) ⊕ (xS × Int32))) : Prop := match r with
  | .inl q => Ev sc 4 14 [] 2 [some (.ref x0), some (.int q.1), none, none, none] [] (hk_of q.2) o
  | .inr r => dn14 o r
def dn14_26 (sc : Option (Nat × (Nat → Int32))) (x0 : Nat) (o : xH × Option Value) (r : ((Int32 × Int32 × xS) ⊕ (xS × Int32))) : Prop := match r with
  | .inl q => Ev sc 4 14 [] 26 [some (.ref x0), some (.int q.1), some (.int q.2.1), none, none] [] (hk_of q.2.2) o
  | .inr r => dn14 o r
def dn14_69 (sc : Option (Nat × (Nat → Int32))) (x0 : Nat) (x2 : Int32) (x3 : Nat) (o : xH × Option Value) (r : ((Int32 × Int32 × xS) ⊕ ((Int32 × Int32 × xS) ⊕ (xS × Int32)))) : Prop := match r with
  | .inl q => Ev sc 4 14 [] 69 [some (.ref x0), some (.int q.1), some (.int x2), some (.ref x3), some (.int q.2.1)] [] (hk_of q.2.2) o
  | .inr r => dn14_26 sc x0 o r
noncomputable def f14_99 (x0 : Nat) (x1 : Int32) (x2 : Int32) (x3 : Nat) (x4 : Int32) (s : xS) : Option ((Int32 × Int32 × xS) ⊕ ((Int32 × Int32 × xS) ⊕ (xS × Int32))) := some (Sum.inl (x1, (x4 + (1 : Int32)), s))
set_option maxRecDepth 20000 in
theorem s14_99 {sc : Option (Nat × (Nat → Int32))} {x0 : Nat} {x1 : Int32} {x2 : Int32} {x3 : Nat} {x4 : Int32} {s : xS} {o : xH × Option Value} {r : ((Int32 × Int32 × xS) ⊕ ((Int32 × Int32 × xS) ⊕ (xS × Int32)))} (k0 : oK x0 1 = true) (k3 : oK x3 6 = true) (h : f14_99 x0 x1 x2 x3 x4 s = some r) (hr : dn14_69 sc x0 x2 x3 o r) : Ev sc 4 14 [] 99 [some (.ref x0), some (.int x1), some (.int x2), some (.ref x3), some (.int x4)] [] (hk_of s) o := by
  unfold f14_99 at h
  refine E_blk rfl ?_
  refine E_ps 1 (pc' := 102) (l' := [some (.ref x0), some (.int x1), some (.int x2), some (.ref x3), some (.int (x4 + (1 : Int32)))]) (st' := []) rfl ?_
  refine E_j rfl rfl ?_
  cases h
  exact E_wk (l' := [some (.ref x0), some (.int x1), some (.int x2), some (.ref x3), some (.int (x4 + (1 : Int32)))]) ⟨rfl, rfl, rfl, rfl, rfl, trivial⟩ hr
noncomputable def f14_69 (x0 : Nat) (x1 : Int32) (x2 : Int32) (x3 : Nat) (x4 : Int32) (s : xS) : Option ((Int32 × Int32 × xS) ⊕ ((Int32 × Int32 × xS) ⊕ (xS × Int32))) := (hk_R x0 2).bind fun a1 => if (s.1 a1 7) ≤ x4 then (Option.map Sum.inr (some (Sum.inl (x1, (x2 + (1 : Int32)), s)))) else ((f15 x0 x3 x2 x4 s).bind fun z5 => (f16 x0 z5.1).bind fun z7 => if z7.2 = 0 then (f14_99 x0 x1 x2 x3 x4 z7.1) else (f14_99 x0 (x1 + (1 : Int32)) x2 x3 x4 z7.1))
set_option maxRecDepth 20000 in
theorem s14_69 {sc : Option (Nat × (Nat → Int32))} {x0 : Nat} {x1 : Int32} {x2 : Int32} {x3 : Nat} {x4 : Int32} {s : xS} {o : xH × Option Value} {r : ((Int32 × Int32 × xS) ⊕ ((Int32 × Int32 × xS) ⊕ (xS × Int32)))} (k0 : oK x0 1 = true) (k3 : oK x3 6 = true) (h : f14_69 x0 x1 x2 x3 x4 s = some r) (hr : dn14_69 sc x0 x2 x3 o r) : Ev sc 4 14 [] 69 [some (.ref x0), some (.int x1), some (.int x2), some (.ref x3), some (.int x4)] [] (hk_of s) o := by
  unfold f14_69 at h
  refine E_blk rfl ?_
  refine E_ps 2 (pc' := 72) (l' := [some (.ref x0), some (.int x1), some (.int x2), some (.ref x3), some (.int x4)]) (st' := [.ref x0, .int x4]) rfl ?_
  obtain ⟨a1, e2, h⟩ := Option.bind_eq_some_iff.mp h
  refine E_gr k0 (by decide) rfl e2 ?_
  have kf3 : oK a1 3 = true := hk_rty k0 e2 rfl (by decide)
  refine E_gi kf3 (by decide) rfl ?_
  by_cases c4 : (s.1 a1 7) ≤ x4
  · rw [if_pos c4] at h
    refine E_jt rfl rfl c4 ?_
    obtain ⟨r, h, hr⟩ := lf_some (Dn := dn14_69 sc x0 x2 x3 o) h hr
    refine E_blk rfl ?_
    refine E_ps 1 (pc' := 108) (l' := [some (.ref x0), some (.int x1), some (.int (x2 + (1 : Int32))), some (.ref x3), some (.int x4)]) (st' := []) rfl ?_
    refine E_j rfl rfl ?_
    cases h
    exact E_wk (l' := [some (.ref x0), some (.int x1), some (.int (x2 + (1 : Int32))), none, none]) ⟨rfl, rfl, rfl, trivial⟩ hr
  · rw [if_neg c4] at h
    refine E_jf rfl rfl c4 ?_
    refine E_blk rfl ?_
    refine E_ps 4 (pc' := 86) (l' := [some (.ref x0), some (.int x1), some (.int x2), some (.ref x3), some (.int x4)]) (st' := [.int x4, .int x2, .ref x3, .ref x0]) rfl ?_
    obtain ⟨z5, e6, h⟩ := Option.bind_eq_some_iff.mp h
    refine E_callV (vs := [.ref x0, .ref x3, .int x2, .int x4]) (rest := []) rfl (by decide) rfl rfl (Nat.le_of_ble_eq_true rfl) (s15 e6) (by decide) ?_
    refine E_ps 1 (pc' := 90) (l' := [some (.ref x0), some (.int x1), some (.int x2), some (.ref x3), some (.int x4)]) (st' := [.ref x0]) rfl ?_
    obtain ⟨z7, e8, h⟩ := Option.bind_eq_some_iff.mp h
    refine E_callI (vs := [.ref x0]) (rest := []) rfl (by decide) rfl rfl (Nat.le_of_ble_eq_true rfl) (s16 e8) (by decide) ?_
    by_cases c9 : z7.2 = 0
    · rw [if_pos c9] at h
      refine E_jt rfl rfl c9 ?_
      exact E_wk (l' := [some (.ref x0), some (.int x1), some (.int x2), some (.ref x3), some (.int x4)]) ⟨rfl, rfl, rfl, rfl, rfl, trivial⟩ (s14_99 k0 k3 h hr)
    · rw [if_neg c9] at h
      refine E_jf rfl rfl c9 ?_
      refine E_blk rfl ?_
      refine E_ps 1 (pc' := 99) (l' := [some (.ref x0), some (.int (x1 + (1 : Int32))), some (.int x2), some (.ref x3), some (.int x4)]) (st' := []) rfl ?_
      exact E_wk (l' := [some (.ref x0), some (.int (x1 + (1 : Int32))), some (.int x2), some (.ref x3), some (.int x4)]) ⟨rfl, rfl, rfl, rfl, rfl, trivial⟩ (s14_99 k0 k3 h hr)
theorem s14_69_w {sc : Option (Nat × (Nat → Int32))} {x0 : Nat} {x1 : Int32} {x2 : Int32} {x3 : Nat} {x4 : Int32} {s : xS} {o : xH × Option Value} {r : ((Int32 × Int32 × xS) ⊕ (xS × Int32))} (k0 : oK x0 1 = true) (k3 : oK x3 6 = true) (h : whl (fun q : (Int32 × Int32 × xS) => f14_69 x0 q.1 x2 x3 q.2.1 q.2.2) (x1, x4, s) = some r) (hr : dn14_26 sc x0 o r) : Ev sc 4 14 [] 69 [some (.ref x0), some (.int x1), some (.int x2), some (.ref x3), some (.int x4)] [] (hk_of s) o := by
  refine whl_snd (E := fun q : (Int32 × Int32 × xS) => Ev sc 4 14 [] 69 [some (.ref x0), some (.int q.1), some (.int x2), some (.ref x3), some (.int q.2.1)] [] (hk_of q.2.2) o) (P := fun r => dn14_26 sc x0 o r) (fun q r h hr => ?_) h hr
  exact s14_69 k0 k3 h (by cases r <;> exact hr)
noncomputable def f14_26 (x0 : Nat) (x1 : Int32) (x2 : Int32) (s : xS) : Option ((Int32 × Int32 × xS) ⊕ (xS × Int32)) := (hk_R x0 1).bind fun a1 => if (s.1 a1 1) ≤ x2 then (Option.map Sum.inr (some (s, x1))) else ((hk_R x0 1).bind fun a5 => (hk_R a5 0).bind fun a8 => (aR a8 x2).bind fun a10 => ifg (oK a10 6 = true) <| (hk_R x0 2).bind fun a13 => (f27 a13 (s.1 a10 2) (s.1 a10 3) (s.1 a10 4) s).bind fun z16 => whl (fun q : (Int32 × Int32 × xS) => f14_69 x0 q.1 x2 a10 q.2.1 q.2.2) (x1, (0 : Int32), z16.1))
set_option maxRecDepth 20000 in
theorem s14_26 {sc : Option (Nat × (Nat → Int32))} {x0 : Nat} {x1 : Int32} {x2 : Int32} {s : xS} {o : xH × Option Value} {r : ((Int32 × Int32 × xS) ⊕ (xS × Int32))} (k0 : oK x0 1 = true) (h : f14_26 x0 x1 x2 s = some r) (hr : dn14_26 sc x0 o r) : Ev sc 4 14 [] 26 [some (.ref x0), some (.int x1), some (.int x2), none, none] [] (hk_of s) o := by
  unfold f14_26 at h
  refine E_blk rfl ?_
  refine E_ps 2 (pc' := 28) (l' := [some (.ref x0), some (.int x1), some (.int x2), none, none]) (st' := [.ref x0, .int x2]) rfl ?_
  obtain ⟨a1, e2, h⟩ := Option.bind_eq_some_iff.mp h
  refine E_gr k0 (by decide) rfl e2 ?_
  have kf3 : oK a1 4 = true := hk_rty k0 e2 rfl (by decide)
  refine E_gi kf3 (by decide) rfl ?_
  by_cases c4 : (s.1 a1 1) ≤ x2
  · rw [if_pos c4] at h
    refine E_jt rfl rfl c4 ?_
    obtain ⟨r, h, hr⟩ := lf_some (Dn := dn14_26 sc x0 o) h hr
    refine E_blk rfl ?_
    refine E_ps 1 (pc' := 112) (l' := [some (.ref x0), some (.int x1), some (.int x2), none, none]) (st' := [.int x1]) rfl ?_
    cases h
    exact E_ret rfl (pg_mt_md (by decide)) rfl hr
  · rw [if_neg c4] at h
    refine E_jf rfl rfl c4 ?_
    refine E_blk rfl ?_
    refine E_ps 1 (pc' := 38) (l' := [some (.ref x0), some (.int x1), some (.int x2), none, none]) (st' := [.ref x0]) rfl ?_
    obtain ⟨a5, e6, h⟩ := Option.bind_eq_some_iff.mp h
    refine E_gr k0 (by decide) rfl e6 ?_
    have kf7 : oK a5 4 = true := hk_rty k0 e6 rfl (by decide)
    obtain ⟨a8, e9, h⟩ := Option.bind_eq_some_iff.mp h
    refine E_gr kf7 (by decide) rfl e9 ?_
    refine E_ps 1 (pc' := 45) (l' := [some (.ref x0), some (.int x1), some (.int x2), none, none]) (st' := [.int x2, .ref a8]) rfl ?_
    obtain ⟨a10, e11, h⟩ := Option.bind_eq_some_iff.mp h
    refine E_ar e11 ?_
    obtain ⟨g12, h⟩ := ifg_some h
    refine E_ps 2 (pc' := 48) (l' := [some (.ref x0), some (.int x1), some (.int x2), some (.ref a10), none]) (st' := [.ref x0]) rfl ?_
    obtain ⟨a13, e14, h⟩ := Option.bind_eq_some_iff.mp h
    refine E_gr k0 (by decide) rfl e14 ?_
    have kf15 : oK a13 3 = true := hk_rty k0 e14 rfl (by decide)
    refine E_ps 1 (pc' := 52) (l' := [some (.ref x0), some (.int x1), some (.int x2), some (.ref a10), none]) (st' := [.ref a10, .ref a13]) rfl ?_
    refine E_gi g12 (by decide) rfl ?_
    refine E_ps 1 (pc' := 56) (l' := [some (.ref x0), some (.int x1), some (.int x2), some (.ref a10), none]) (st' := [.ref a10, .int (s.1 a10 2), .ref a13]) rfl ?_
    refine E_gi g12 (by decide) rfl ?_
    refine E_ps 1 (pc' := 60) (l' := [some (.ref x0), some (.int x1), some (.int x2), some (.ref a10), none]) (st' := [.ref a10, .int (s.1 a10 3), .int (s.1 a10 2), .ref a13]) rfl ?_
    refine E_gi g12 (by decide) rfl ?_
    obtain ⟨z16, e17, h⟩ := Option.bind_eq_some_iff.mp h
    refine E_callV (vs := [.ref a13, .int (s.1 a10 2), .int (s.1 a10 3), .int (s.1 a10 4)]) (rest := []) rfl (by decide) rfl rfl (Nat.le_of_ble_eq_true rfl) (s27 e17) (by decide) ?_
    refine E_ps 2 (pc' := 69) (l' := [some (.ref x0), some (.int x1), some (.int x2), some (.ref a10), some (.int (0 : Int32))]) (st' := []) rfl ?_
    exact E_wk (l' := [some (.ref x0), some (.int x1), some (.int x2), some (.ref a10), some (.int (0 : Int32))]) ⟨rfl, rfl, rfl, rfl, rfl, trivial⟩ (s14_69_w k0 g12 h hr)
theorem s14_26_w {sc : Option (Nat × (Nat → Int32))} {x0 : Nat} {x1 : Int32} {x2 : Int32} {s : xS} {o : xH × Option Value} {r : (xS × Int32)} (k0 : oK x0 1 = true) (h : whl (fun q : (Int32 × Int32 × xS) => f14_26 x0 q.1 q.2.1 q.2.2) (x1, x2, s) = some r) (hr : dn14 o r) : Ev sc 4 14 [] 26 [some (.ref x0), some (.int x1), some (.int x2), none, none] [] (hk_of s) o := by
  refine whl_snd (E := fun q : (Int32 × Int32 × xS) => Ev sc 4 14 [] 26 [some (.ref x0), some (.int q.1), some (.int q.2.1), none, none] [] (hk_of q.2.2) o) (P := fun r => dn14 o r) (fun q r h hr => ?_) h hr
  exact s14_26 k0 h (by cases r <;> exact hr)
noncomputable def f14_2 (x0 : Nat) (x1 : Int32) (s : xS) : Option ((Int32 × xS) ⊕ (xS × Int32)) := if (130 : Int32) ≤ x1 then (Option.map Sum.inr (whl (fun q : (Int32 × Int32 × xS) => f14_26 x0 q.1 q.2.1 q.2.2) ((0 : Int32), (0 : Int32), s))) else ((hk_R x0 4).bind fun a2 => (wB s a2 x1 (0 : Int32)).bind fun t4 => some (Sum.inl ((x1 + (1 : Int32)), t4)))
set_option maxRecDepth 20000 in
theorem s14_2 {sc : Option (Nat × (Nat → Int32))} {x0 : Nat} {x1 : Int32} {s : xS} {o : xH × Option Value} {r : ((Int32 × xS) ⊕ (xS × Int32))} (k0 : oK x0 1 = true) (h : f14_2 x0 x1 s = some r) (hr : dn14_2 sc x0 o r) : Ev sc 4 14 [] 2 [some (.ref x0), some (.int x1), none, none, none] [] (hk_of s) o := by
  unfold f14_2 at h
  refine E_blk rfl ?_
  refine E_ps 2 (pc' := 6) (l' := [some (.ref x0), some (.int x1), none, none, none]) (st' := [.int (130 : Int32), .int x1]) rfl ?_
  by_cases c1 : (130 : Int32) ≤ x1
  · rw [if_pos c1] at h
    refine E_jt rfl rfl c1 ?_
    obtain ⟨r, h, hr⟩ := lf_some (Dn := dn14_2 sc x0 o) h hr
    refine E_blk rfl ?_
    refine E_ps 4 (pc' := 26) (l' := [some (.ref x0), some (.int (0 : Int32)), some (.int (0 : Int32)), none, none]) (st' := []) rfl ?_
    exact E_wk (l' := [some (.ref x0), some (.int (0 : Int32)), some (.int (0 : Int32)), none, none]) ⟨rfl, rfl, rfl, trivial⟩ (s14_26_w k0 h hr)
  · rw [if_neg c1] at h
    refine E_jf rfl rfl c1 ?_
    refine E_blk rfl ?_
    refine E_ps 1 (pc' := 10) (l' := [some (.ref x0), some (.int x1), none, none, none]) (st' := [.ref x0]) rfl ?_
    obtain ⟨a2, e3, h⟩ := Option.bind_eq_some_iff.mp h
    refine E_gr k0 (by decide) rfl e3 ?_
    refine E_ps 2 (pc' := 15) (l' := [some (.ref x0), some (.int x1), none, none, none]) (st' := [.int (0 : Int32), .int x1, .ref a2]) rfl ?_
    obtain ⟨t4, e5, h⟩ := Option.bind_eq_some_iff.mp h
    refine E_wb e5 ?_
    refine E_ps 1 (pc' := 19) (l' := [some (.ref x0), some (.int (x1 + (1 : Int32))), none, none, none]) (st' := []) rfl ?_
    refine E_j rfl rfl ?_
    cases h
    exact E_wk (l' := [some (.ref x0), some (.int (x1 + (1 : Int32))), none, none, none]) ⟨rfl, rfl, trivial⟩ hr
theorem s14_2_w {sc : Option (Nat × (Nat → Int32))} {x0 : Nat} {x1 : Int32} {s : xS} {o : xH × Option Value} {r : (xS × Int32)} (k0 : oK x0 1 = true) (h : whl (fun q : (Int32 × xS) => f14_2 x0 q.1 q.2) (x1, s) = some r) (hr : dn14 o r) : Ev sc 4 14 [] 2 [some (.ref x0), some (.int x1), none, none, none] [] (hk_of s) o := by
  refine whl_snd (E := fun q : (Int32 × xS) => Ev sc 4 14 [] 2 [some (.ref x0), some (.int q.1), none, none, none] [] (hk_of q.2) o) (P := fun r => dn14 o r) (fun q r h hr => ?_) h hr
  exact s14_2 k0 h (by cases r <;> exact hr)
noncomputable def f14 (x0 : Nat) (s : xS) : Option (xS × Int32) := ifg (oK x0 1 = true) <| whl (fun q : (Int32 × xS) => f14_2 x0 q.1 q.2) ((0 : Int32), s)
set_option maxRecDepth 20000 in
theorem s14 {sc : Option (Nat × (Nat → Int32))} {x0 : Nat} {s : xS} {r : xS × Int32} (h : f14 x0 s = some r) : Cl sc 4 14 [.ref x0] (hk_of s) (hk_of r.1, some (.int r.2)) := by
  unfold f14 at h
  obtain ⟨k0, h⟩ := ifg_some h
  refine ⟨pg_md 14, [some (.ref x0), none, none, none, none], pg_mt_md (by decide), (hk_rcv k0), rfl, ?_⟩
  generalize ho : ((hk_of r.1, some (Value.int r.2)) : xH × Option Value) = o
  have hr : dn14 o r := ho.symm
  refine E_blk rfl ?_
  refine E_ps 2 (pc' := 2) (l' := [some (.ref x0), some (.int (0 : Int32)), none, none, none]) (st' := []) rfl ?_
  exact E_wk (l' := [some (.ref x0), some (.int (0 : Int32)), none, none, none]) ⟨rfl, rfl, trivial⟩ (s14_2_w k0 h hr)

-- 21: ThreePlates$Hand.tell(II)I
def dn21 (o : xH × Option Value) (r : xS × Int32) : Prop := o = (hk_of r.1, some (.int r.2))
noncomputable def f21_30  (s : xS) : Option (xS × Int32) := some (s, (-1 : Int32))
set_option maxRecDepth 20000 in
theorem s21_30 {sc : Option (Nat × (Nat → Int32))}  {s : xS} {o : xH × Option Value} {r : (xS × Int32)}  (h : f21_30  s = some r) (hr : dn21 o r) : Ev sc 1 21 [] 30 [none, none, none] [] (hk_of s) o := by
  unfold f21_30 at h
  refine E_blk rfl ?_
  refine E_ps 1 (pc' := 31) (l' := [none, none, none]) (st' := [.int (-1 : Int32)]) rfl ?_
  cases h
  exact E_ret rfl (pg_mt_md (by decide)) rfl hr
noncomputable def f21 (x0 : Nat) (x1 : Int32) (x2 : Int32) (s : xS) : Option (xS × Int32) := ifg (oK x0 2 = true) <| if x1 < (1 : Int32) then (f21_30  s) else (if (9 : Int32) < x1 then (f21_30  s) else (if x2 < 0 then (f21_30  s) else (if (99 : Int32) < x2 then (f21_30  s) else (if (s.1 x0 2) < (40 : Int32) then ((hk_R x0 0).bind fun a6 => (wI s a6 (s.1 x0 2) x1).bind fun t8 => (hk_R x0 1).bind fun a10 => (wI t8 a10 (t8.1 x0 2) x2).bind fun t12 => (pI t12 x0 2 ((t12.1 x0 2) + (1 : Int32))).bind fun t14 => some (t14, (t14.1 x0 2))) else (f21_30  s)))))
set_option maxRecDepth 20000 in
theorem s21 {sc : Option (Nat × (Nat → Int32))} {x0 : Nat} {x1 : Int32} {x2 : Int32} {s : xS} {r : xS × Int32} (h : f21 x0 x1 x2 s = some r) : Cl sc 1 21 [.ref x0, .int x1, .int x2] (hk_of s) (hk_of r.1, some (.int r.2)) := by
  unfold f21 at h
  obtain ⟨k0, h⟩ := ifg_some h
  refine ⟨pg_md 21, [some (.ref x0), some (.int x1), some (.int x2)], pg_mt_md (by decide), (hk_rcv k0), rfl, ?_⟩
  generalize ho : ((hk_of r.1, some (Value.int r.2)) : xH × Option Value) = o
  have hr : dn21 o r := ho.symm
  refine E_blk rfl ?_
  refine E_ps 2 (pc' := 2) (l' := [some (.ref x0), some (.int x1), some (.int x2)]) (st' := [.int (1 : Int32), .int x1]) rfl ?_
  by_cases c1 : x1 < (1 : Int32)
  · rw [if_pos c1] at h
    refine E_jt rfl rfl c1 ?_
    exact E_wk (l' := [none, none, none]) trivial (s21_30  h hr)
  · rw [if_neg c1] at h
    refine E_jf rfl rfl c1 ?_
    refine E_blk rfl ?_
    refine E_ps 2 (pc' := 8) (l' := [some (.ref x0), some (.int x1), some (.int x2)]) (st' := [.int (9 : Int32), .int x1]) rfl ?_
    by_cases c2 : (9 : Int32) < x1
    · rw [if_pos c2] at h
      refine E_jt rfl rfl c2 ?_
      exact E_wk (l' := [none, none, none]) trivial (s21_30  h hr)
    · rw [if_neg c2] at h
      refine E_jf rfl rfl c2 ?_
      refine E_blk rfl ?_
      refine E_ps 1 (pc' := 12) (l' := [some (.ref x0), some (.int x1), some (.int x2)]) (st' := [.int x2]) rfl ?_
      by_cases c3 : x2 < 0
      · rw [if_pos c3] at h
        refine E_jt rfl rfl c3 ?_
        exact E_wk (l' := [none, none, none]) trivial (s21_30  h hr)
      · rw [if_neg c3] at h
        refine E_jf rfl rfl c3 ?_
        refine E_blk rfl ?_
        refine E_ps 2 (pc' := 18) (l' := [some (.ref x0), some (.int x1), some (.int x2)]) (st' := [.int (99 : Int32), .int x2]) rfl ?_
        by_cases c4 : (99 : Int32) < x2
        · rw [if_pos c4] at h
          refine E_jt rfl rfl c4 ?_
          exact E_wk (l' := [none, none, none]) trivial (s21_30  h hr)
        · rw [if_neg c4] at h
          refine E_jf rfl rfl c4 ?_
          refine E_blk rfl ?_
          refine E_ps 1 (pc' := 22) (l' := [some (.ref x0), some (.int x1), some (.int x2)]) (st' := [.ref x0]) rfl ?_
          refine E_gi k0 (by decide) rfl ?_
          refine E_ps 1 (pc' := 27) (l' := [some (.ref x0), some (.int x1), some (.int x2)]) (st' := [.int (40 : Int32), .int (s.1 x0 2)]) rfl ?_
          by_cases c5 : (s.1 x0 2) < (40 : Int32)
          · rw [if_pos c5] at h
            refine E_jt rfl rfl c5 ?_
            refine E_blk rfl ?_
            refine E_ps 1 (pc' := 33) (l' := [some (.ref x0), some (.int x1), some (.int x2)]) (st' := [.ref x0]) rfl ?_
            obtain ⟨a6, e7, h⟩ := Option.bind_eq_some_iff.mp h
            refine E_gr k0 (by decide) rfl e7 ?_
            refine E_ps 1 (pc' := 37) (l' := [some (.ref x0), some (.int x1), some (.int x2)]) (st' := [.ref x0, .ref a6]) rfl ?_
            refine E_gi k0 (by decide) rfl ?_
            refine E_ps 1 (pc' := 41) (l' := [some (.ref x0), some (.int x1), some (.int x2)]) (st' := [.int x1, .int (s.1 x0 2), .ref a6]) rfl ?_
            obtain ⟨t8, e9, h⟩ := Option.bind_eq_some_iff.mp h
            refine E_wi e9 ?_
            refine E_ps 1 (pc' := 43) (l' := [some (.ref x0), some (.int x1), some (.int x2)]) (st' := [.ref x0]) rfl ?_
            obtain ⟨a10, e11, h⟩ := Option.bind_eq_some_iff.mp h
            refine E_gr k0 (by decide) rfl e11 ?_
            refine E_ps 1 (pc' := 47) (l' := [some (.ref x0), some (.int x1), some (.int x2)]) (st' := [.ref x0, .ref a10]) rfl ?_
            refine E_gi k0 (by decide) rfl ?_
            refine E_ps 1 (pc' := 51) (l' := [some (.ref x0), some (.int x1), some (.int x2)]) (st' := [.int x2, .int (t8.1 x0 2), .ref a10]) rfl ?_
            obtain ⟨t12, e13, h⟩ := Option.bind_eq_some_iff.mp h
            refine E_wi e13 ?_
            refine E_ps 2 (pc' := 54) (l' := [some (.ref x0), some (.int x1), some (.int x2)]) (st' := [.ref x0, .ref x0]) rfl ?_
            refine E_gi k0 (by decide) rfl ?_
            refine E_ps 2 (pc' := 59) (l' := [some (.ref x0), some (.int x1), some (.int x2)]) (st' := [.int ((t12.1 x0 2) + (1 : Int32)), .ref x0]) rfl ?_
            obtain ⟨t14, e15, h⟩ := Option.bind_eq_some_iff.mp h
            refine E_pi k0 (by decide) rfl e15 ?_
            refine E_ps 1 (pc' := 63) (l' := [some (.ref x0), some (.int x1), some (.int x2)]) (st' := [.ref x0]) rfl ?_
            refine E_gi k0 (by decide) rfl ?_
            cases h
            exact E_ret rfl (pg_mt_md (by decide)) rfl hr
          · rw [if_neg c5] at h
            refine E_jf rfl rfl c5 ?_
            exact E_wk (l' := [none, none, none]) trivial (s21_30  h hr)

-- 22: ThreePlates$Hand.letsAll(II)Z
def dn22 (o : xH × Option Value) (r : xS × Int32) : Prop := o = (hk_of r.1, some (.int r.2))
def dn22_2 (sc : Option (Nat × (Nat → Int32))) (x0 : Nat) (x1 : Int32) (x2 : Int32) (o : xH × Option Value) (r : ((Int32 × xS) ⊕ (xS × Int32))) : Prop := match r with
  | .inl q => Ev sc 1 22 [] 2 [some (.ref x0), some (.int x1), some (.int x2), some (.int q.1), none] [] (hk_of q.2) o
  | .inr r => dn22 o r
noncomputable def f22_47  (s : xS) : Option (xS × Int32) := some (s, (0 : Int32))
set_option maxRecDepth 20000 in
theorem s22_47 {sc : Option (Nat × (Nat → Int32))}  {s : xS} {o : xH × Option Value} {r : (xS × Int32)}  (h : f22_47  s = some r) (hr : dn22 o r) : Ev sc 1 22 [] 47 [none, none, none, none, none] [] (hk_of s) o := by
  unfold f22_47 at h
  refine E_blk rfl ?_
  refine E_ps 1 (pc' := 48) (l' := [none, none, none, none, none]) (st' := [.int (0 : Int32)]) rfl ?_
  cases h
  exact E_ret rfl (pg_mt_md (by decide)) rfl hr
noncomputable def f22_2 (x0 : Nat) (x1 : Int32) (x2 : Int32) (x3 : Int32) (s : xS) : Option ((Int32 × xS) ⊕ (xS × Int32)) := if (s.1 x0 2) ≤ x3 then (Option.map Sum.inr (some (s, (1 : Int32)))) else ((hk_R x0 0).bind fun a2 => (aI s a2 x3).bind fun v4 => (hk_R x0 1).bind fun a6 => (aI s a6 x3).bind fun v8 => if v8 < ((v4 * x1) / (10 : Int32)) then (Option.map Sum.inr (f22_47  s)) else ((hk_R x0 1).bind fun a11 => (aI s a11 x3).bind fun v13 => if v13 ≤ (((v4 * x1) / (10 : Int32)) + x2) then (some (Sum.inl ((x3 + (1 : Int32)), s))) else (Option.map Sum.inr (f22_47  s))))
set_option maxRecDepth 20000 in
theorem s22_2 {sc : Option (Nat × (Nat → Int32))} {x0 : Nat} {x1 : Int32} {x2 : Int32} {x3 : Int32} {s : xS} {o : xH × Option Value} {r : ((Int32 × xS) ⊕ (xS × Int32))} (k0 : oK x0 2 = true) (h : f22_2 x0 x1 x2 x3 s = some r) (hr : dn22_2 sc x0 x1 x2 o r) : Ev sc 1 22 [] 2 [some (.ref x0), some (.int x1), some (.int x2), some (.int x3), none] [] (hk_of s) o := by
  unfold f22_2 at h
  refine E_blk rfl ?_
  refine E_ps 2 (pc' := 4) (l' := [some (.ref x0), some (.int x1), some (.int x2), some (.int x3), none]) (st' := [.ref x0, .int x3]) rfl ?_
  refine E_gi k0 (by decide) rfl ?_
  by_cases c1 : (s.1 x0 2) ≤ x3
  · rw [if_pos c1] at h
    refine E_jt rfl rfl c1 ?_
    obtain ⟨r, h, hr⟩ := lf_some (Dn := dn22_2 sc x0 x1 x2 o) h hr
    refine E_blk rfl ?_
    refine E_ps 1 (pc' := 56) (l' := [some (.ref x0), some (.int x1), some (.int x2), some (.int x3), none]) (st' := [.int (1 : Int32)]) rfl ?_
    cases h
    exact E_ret rfl (pg_mt_md (by decide)) rfl hr
  · rw [if_neg c1] at h
    refine E_jf rfl rfl c1 ?_
    refine E_blk rfl ?_
    refine E_ps 1 (pc' := 11) (l' := [some (.ref x0), some (.int x1), some (.int x2), some (.int x3), none]) (st' := [.ref x0]) rfl ?_
    obtain ⟨a2, e3, h⟩ := Option.bind_eq_some_iff.mp h
    refine E_gr k0 (by decide) rfl e3 ?_
    refine E_ps 1 (pc' := 15) (l' := [some (.ref x0), some (.int x1), some (.int x2), some (.int x3), none]) (st' := [.int x3, .ref a2]) rfl ?_
    obtain ⟨v4, e5, h⟩ := Option.bind_eq_some_iff.mp h
    refine E_ai e5 ?_
    refine E_ps 3 (pc' := 20) (l' := [some (.ref x0), some (.int x1), some (.int x2), some (.int x3), none]) (st' := [.int (10 : Int32), .int (v4 * x1)]) rfl ?_
    refine E_idiv (by decide) ?_
    refine E_ps 2 (pc' := 24) (l' := [some (.ref x0), some (.int x1), some (.int x2), some (.int x3), some (.int ((v4 * x1) / (10 : Int32)))]) (st' := [.ref x0]) rfl ?_
    obtain ⟨a6, e7, h⟩ := Option.bind_eq_some_iff.mp h
    refine E_gr k0 (by decide) rfl e7 ?_
    refine E_ps 1 (pc' := 28) (l' := [some (.ref x0), some (.int x1), some (.int x2), some (.int x3), some (.int ((v4 * x1) / (10 : Int32)))]) (st' := [.int x3, .ref a6]) rfl ?_
    obtain ⟨v8, e9, h⟩ := Option.bind_eq_some_iff.mp h
    refine E_ai e9 ?_
    refine E_ps 1 (pc' := 31) (l' := [some (.ref x0), some (.int x1), some (.int x2), some (.int x3), some (.int ((v4 * x1) / (10 : Int32)))]) (st' := [.int ((v4 * x1) / (10 : Int32)), .int v8]) rfl ?_
    by_cases c10 : v8 < ((v4 * x1) / (10 : Int32))
    · rw [if_pos c10] at h
      refine E_jt rfl rfl c10 ?_
      obtain ⟨r, h, hr⟩ := lf_some (Dn := dn22_2 sc x0 x1 x2 o) h hr
      exact E_wk (l' := [none, none, none, none, none]) trivial (s22_47  h hr)
    · rw [if_neg c10] at h
      refine E_jf rfl rfl c10 ?_
      refine E_blk rfl ?_
      refine E_ps 1 (pc' := 35) (l' := [some (.ref x0), some (.int x1), some (.int x2), some (.int x3), some (.int ((v4 * x1) / (10 : Int32)))]) (st' := [.ref x0]) rfl ?_
      obtain ⟨a11, e12, h⟩ := Option.bind_eq_some_iff.mp h
      refine E_gr k0 (by decide) rfl e12 ?_
      refine E_ps 1 (pc' := 39) (l' := [some (.ref x0), some (.int x1), some (.int x2), some (.int x3), some (.int ((v4 * x1) / (10 : Int32)))]) (st' := [.int x3, .ref a11]) rfl ?_
      obtain ⟨v13, e14, h⟩ := Option.bind_eq_some_iff.mp h
      refine E_ai e14 ?_
      refine E_ps 3 (pc' := 44) (l' := [some (.ref x0), some (.int x1), some (.int x2), some (.int x3), some (.int ((v4 * x1) / (10 : Int32)))]) (st' := [.int (((v4 * x1) / (10 : Int32)) + x2), .int v13]) rfl ?_
      by_cases c15 : v13 ≤ (((v4 * x1) / (10 : Int32)) + x2)
      · rw [if_pos c15] at h
        refine E_jt rfl rfl c15 ?_
        refine E_blk rfl ?_
        refine E_ps 1 (pc' := 52) (l' := [some (.ref x0), some (.int x1), some (.int x2), some (.int (x3 + (1 : Int32))), some (.int ((v4 * x1) / (10 : Int32)))]) (st' := []) rfl ?_
        refine E_j rfl rfl ?_
        cases h
        exact E_wk (l' := [some (.ref x0), some (.int x1), some (.int x2), some (.int (x3 + (1 : Int32))), none]) ⟨rfl, rfl, rfl, rfl, trivial⟩ hr
      · rw [if_neg c15] at h
        refine E_jf rfl rfl c15 ?_
        obtain ⟨r, h, hr⟩ := lf_some (Dn := dn22_2 sc x0 x1 x2 o) h hr
        exact E_wk (l' := [none, none, none, none, none]) trivial (s22_47  h hr)
theorem s22_2_w {sc : Option (Nat × (Nat → Int32))} {x0 : Nat} {x1 : Int32} {x2 : Int32} {x3 : Int32} {s : xS} {o : xH × Option Value} {r : (xS × Int32)} (k0 : oK x0 2 = true) (h : whl (fun q : (Int32 × xS) => f22_2 x0 x1 x2 q.1 q.2) (x3, s) = some r) (hr : dn22 o r) : Ev sc 1 22 [] 2 [some (.ref x0), some (.int x1), some (.int x2), some (.int x3), none] [] (hk_of s) o := by
  refine whl_snd (E := fun q : (Int32 × xS) => Ev sc 1 22 [] 2 [some (.ref x0), some (.int x1), some (.int x2), some (.int q.1), none] [] (hk_of q.2) o) (P := fun r => dn22 o r) (fun q r h hr => ?_) h hr
  exact s22_2 k0 h (by cases r <;> exact hr)
noncomputable def f22 (x0 : Nat) (x1 : Int32) (x2 : Int32) (s : xS) : Option (xS × Int32) := ifg (oK x0 2 = true) <| whl (fun q : (Int32 × xS) => f22_2 x0 x1 x2 q.1 q.2) ((0 : Int32), s)
set_option maxRecDepth 20000 in
theorem s22 {sc : Option (Nat × (Nat → Int32))} {x0 : Nat} {x1 : Int32} {x2 : Int32} {s : xS} {r : xS × Int32} (h : f22 x0 x1 x2 s = some r) : Cl sc 1 22 [.ref x0, .int x1, .int x2] (hk_of s) (hk_of r.1, some (.int r.2)) := by
  unfold f22 at h
  obtain ⟨k0, h⟩ := ifg_some h
  refine ⟨pg_md 22, [some (.ref x0), some (.int x1), some (.int x2), none, none], pg_mt_md (by decide), (hk_rcv k0), rfl, ?_⟩
  generalize ho : ((hk_of r.1, some (Value.int r.2)) : xH × Option Value) = o
  have hr : dn22 o r := ho.symm
  refine E_blk rfl ?_
  refine E_ps 2 (pc' := 2) (l' := [some (.ref x0), some (.int x1), some (.int x2), some (.int (0 : Int32)), none]) (st' := []) rfl ?_
  exact E_wk (l' := [some (.ref x0), some (.int x1), some (.int x2), some (.int (0 : Int32)), none]) ⟨rfl, rfl, rfl, rfl, trivial⟩ (s22_2_w k0 h hr)

-- 23: ThreePlates$Hand.countFitting()I
def dn23 (o : xH × Option Value) (r : xS × Int32) : Prop := o = (hk_of r.1, some (.int r.2))
def dn23_4 (sc : Option (Nat × (Nat → Int32))) (x0 : Nat) (o : xH × Option Value) (r : ((Int32 × Int32 × xS) ⊕ (xS × Int32))) : Prop := match r with
  | .inl q => Ev sc 2 23 [] 4 [some (.ref x0), some (.int q.1), some (.int q.2.1), none] [] (hk_of q.2.2) o
  | .inr r => dn23 o r
def dn23_11 (sc : Option (Nat × (Nat → Int32))) (x0 : Nat) (x2 : Int32) (o : xH × Option Value) (r : ((Int32 × Int32 × xS) ⊕ ((Int32 × Int32 × xS) ⊕ (xS × Int32)))) : Prop := match r with
  | .inl q => Ev sc 2 23 [] 11 [some (.ref x0), some (.int q.1), some (.int x2), some (.int q.2.1)] [] (hk_of q.2.2) o
  | .inr r => dn23_4 sc x0 o r
noncomputable def f23_29 (x0 : Nat) (x1 : Int32) (x2 : Int32) (x3 : Int32) (s : xS) : Option ((Int32 × Int32 × xS) ⊕ ((Int32 × Int32 × xS) ⊕ (xS × Int32))) := some (Sum.inl (x1, (x3 + (1 : Int32)), s))
set_option maxRecDepth 20000 in
theorem s23_29 {sc : Option (Nat × (Nat → Int32))} {x0 : Nat} {x1 : Int32} {x2 : Int32} {x3 : Int32} {s : xS} {o : xH × Option Value} {r : ((Int32 × Int32 × xS) ⊕ ((Int32 × Int32 × xS) ⊕ (xS × Int32)))} (k0 : oK x0 2 = true) (h : f23_29 x0 x1 x2 x3 s = some r) (hr : dn23_11 sc x0 x2 o r) : Ev sc 2 23 [] 29 [some (.ref x0), some (.int x1), some (.int x2), some (.int x3)] [] (hk_of s) o := by
  unfold f23_29 at h
  refine E_blk rfl ?_
  refine E_ps 1 (pc' := 32) (l' := [some (.ref x0), some (.int x1), some (.int x2), some (.int (x3 + (1 : Int32)))]) (st' := []) rfl ?_
  refine E_j rfl rfl ?_
  cases h
  exact E_wk (l' := [some (.ref x0), some (.int x1), some (.int x2), some (.int (x3 + (1 : Int32)))]) ⟨rfl, rfl, rfl, rfl, trivial⟩ hr
noncomputable def f23_11 (x0 : Nat) (x1 : Int32) (x2 : Int32) (x3 : Int32) (s : xS) : Option ((Int32 × Int32 × xS) ⊕ ((Int32 × Int32 × xS) ⊕ (xS × Int32))) := if (30 : Int32) < x3 then (Option.map Sum.inr (some (Sum.inl (x1, (x2 + (1 : Int32)), s)))) else ((f22 x0 x3 x2 s).bind fun z2 => if z2.2 = 0 then (f23_29 x0 x1 x2 x3 z2.1) else (f23_29 x0 (x1 + (1 : Int32)) x2 x3 z2.1))
set_option maxRecDepth 20000 in
theorem s23_11 {sc : Option (Nat × (Nat → Int32))} {x0 : Nat} {x1 : Int32} {x2 : Int32} {x3 : Int32} {s : xS} {o : xH × Option Value} {r : ((Int32 × Int32 × xS) ⊕ ((Int32 × Int32 × xS) ⊕ (xS × Int32)))} (k0 : oK x0 2 = true) (h : f23_11 x0 x1 x2 x3 s = some r) (hr : dn23_11 sc x0 x2 o r) : Ev sc 2 23 [] 11 [some (.ref x0), some (.int x1), some (.int x2), some (.int x3)] [] (hk_of s) o := by
  unfold f23_11 at h
  refine E_blk rfl ?_
  refine E_ps 2 (pc' := 14) (l' := [some (.ref x0), some (.int x1), some (.int x2), some (.int x3)]) (st' := [.int (30 : Int32), .int x3]) rfl ?_
  by_cases c1 : (30 : Int32) < x3
  · rw [if_pos c1] at h
    refine E_jt rfl rfl c1 ?_
    obtain ⟨r, h, hr⟩ := lf_some (Dn := dn23_11 sc x0 x2 o) h hr
    refine E_blk rfl ?_
    refine E_ps 1 (pc' := 38) (l' := [some (.ref x0), some (.int x1), some (.int (x2 + (1 : Int32))), some (.int x3)]) (st' := []) rfl ?_
    refine E_j rfl rfl ?_
    cases h
    exact E_wk (l' := [some (.ref x0), some (.int x1), some (.int (x2 + (1 : Int32))), none]) ⟨rfl, rfl, rfl, trivial⟩ hr
  · rw [if_neg c1] at h
    refine E_jf rfl rfl c1 ?_
    refine E_blk rfl ?_
    refine E_ps 3 (pc' := 20) (l' := [some (.ref x0), some (.int x1), some (.int x2), some (.int x3)]) (st' := [.int x2, .int x3, .ref x0]) rfl ?_
    obtain ⟨z2, e3, h⟩ := Option.bind_eq_some_iff.mp h
    refine E_callI (vs := [.ref x0, .int x3, .int x2]) (rest := []) rfl (by decide) rfl rfl (Nat.le_of_ble_eq_true rfl) (s22 e3) (by decide) ?_
    by_cases c4 : z2.2 = 0
    · rw [if_pos c4] at h
      refine E_jt rfl rfl c4 ?_
      exact E_wk (l' := [some (.ref x0), some (.int x1), some (.int x2), some (.int x3)]) ⟨rfl, rfl, rfl, rfl, trivial⟩ (s23_29 k0 h hr)
    · rw [if_neg c4] at h
      refine E_jf rfl rfl c4 ?_
      refine E_blk rfl ?_
      refine E_ps 1 (pc' := 29) (l' := [some (.ref x0), some (.int (x1 + (1 : Int32))), some (.int x2), some (.int x3)]) (st' := []) rfl ?_
      exact E_wk (l' := [some (.ref x0), some (.int (x1 + (1 : Int32))), some (.int x2), some (.int x3)]) ⟨rfl, rfl, rfl, rfl, trivial⟩ (s23_29 k0 h hr)
theorem s23_11_w {sc : Option (Nat × (Nat → Int32))} {x0 : Nat} {x1 : Int32} {x2 : Int32} {x3 : Int32} {s : xS} {o : xH × Option Value} {r : ((Int32 × Int32 × xS) ⊕ (xS × Int32))} (k0 : oK x0 2 = true) (h : whl (fun q : (Int32 × Int32 × xS) => f23_11 x0 q.1 x2 q.2.1 q.2.2) (x1, x3, s) = some r) (hr : dn23_4 sc x0 o r) : Ev sc 2 23 [] 11 [some (.ref x0), some (.int x1), some (.int x2), some (.int x3)] [] (hk_of s) o := by
  refine whl_snd (E := fun q : (Int32 × Int32 × xS) => Ev sc 2 23 [] 11 [some (.ref x0), some (.int q.1), some (.int x2), some (.int q.2.1)] [] (hk_of q.2.2) o) (P := fun r => dn23_4 sc x0 o r) (fun q r h hr => ?_) h hr
  exact s23_11 k0 h (by cases r <;> exact hr)
noncomputable def f23_4 (x0 : Nat) (x1 : Int32) (x2 : Int32) (s : xS) : Option ((Int32 × Int32 × xS) ⊕ (xS × Int32)) := if (5 : Int32) < x2 then (Option.map Sum.inr (some (s, x1))) else (whl (fun q : (Int32 × Int32 × xS) => f23_11 x0 q.1 x2 q.2.1 q.2.2) (x1, (1 : Int32), s))
set_option maxRecDepth 20000 in
theorem s23_4 {sc : Option (Nat × (Nat → Int32))} {x0 : Nat} {x1 : Int32} {x2 : Int32} {s : xS} {o : xH × Option Value} {r : ((Int32 × Int32 × xS) ⊕ (xS × Int32))} (k0 : oK x0 2 = true) (h : f23_4 x0 x1 x2 s = some r) (hr : dn23_4 sc x0 o r) : Ev sc 2 23 [] 4 [some (.ref x0), some (.int x1), some (.int x2), none] [] (hk_of s) o := by
  unfold f23_4 at h
  refine E_blk rfl ?_
  refine E_ps 2 (pc' := 6) (l' := [some (.ref x0), some (.int x1), some (.int x2), none]) (st' := [.int (5 : Int32), .int x2]) rfl ?_
  by_cases c1 : (5 : Int32) < x2
  · rw [if_pos c1] at h
    refine E_jt rfl rfl c1 ?_
    obtain ⟨r, h, hr⟩ := lf_some (Dn := dn23_4 sc x0 o) h hr
    refine E_blk rfl ?_
    refine E_ps 1 (pc' := 42) (l' := [some (.ref x0), some (.int x1), some (.int x2), none]) (st' := [.int x1]) rfl ?_
    cases h
    exact E_ret rfl (pg_mt_md (by decide)) rfl hr
  · rw [if_neg c1] at h
    refine E_jf rfl rfl c1 ?_
    refine E_blk rfl ?_
    refine E_ps 2 (pc' := 11) (l' := [some (.ref x0), some (.int x1), some (.int x2), some (.int (1 : Int32))]) (st' := []) rfl ?_
    exact E_wk (l' := [some (.ref x0), some (.int x1), some (.int x2), some (.int (1 : Int32))]) ⟨rfl, rfl, rfl, rfl, trivial⟩ (s23_11_w k0 h hr)
theorem s23_4_w {sc : Option (Nat × (Nat → Int32))} {x0 : Nat} {x1 : Int32} {x2 : Int32} {s : xS} {o : xH × Option Value} {r : (xS × Int32)} (k0 : oK x0 2 = true) (h : whl (fun q : (Int32 × Int32 × xS) => f23_4 x0 q.1 q.2.1 q.2.2) (x1, x2, s) = some r) (hr : dn23 o r) : Ev sc 2 23 [] 4 [some (.ref x0), some (.int x1), some (.int x2), none] [] (hk_of s) o := by
  refine whl_snd (E := fun q : (Int32 × Int32 × xS) => Ev sc 2 23 [] 4 [some (.ref x0), some (.int q.1), some (.int q.2.1), none] [] (hk_of q.2.2) o) (P := fun r => dn23 o r) (fun q r h hr => ?_) h hr
  exact s23_4 k0 h (by cases r <;> exact hr)
noncomputable def f23 (x0 : Nat) (s : xS) : Option (xS × Int32) := ifg (oK x0 2 = true) <| whl (fun q : (Int32 × Int32 × xS) => f23_4 x0 q.1 q.2.1 q.2.2) ((0 : Int32), (0 : Int32), s)
set_option maxRecDepth 20000 in
theorem s23 {sc : Option (Nat × (Nat → Int32))} {x0 : Nat} {s : xS} {r : xS × Int32} (h : f23 x0 s = some r) : Cl sc 2 23 [.ref x0] (hk_of s) (hk_of r.1, some (.int r.2)) := by
  unfold f23 at h
  obtain ⟨k0, h⟩ := ifg_some h
  refine ⟨pg_md 23, [some (.ref x0), none, none, none], pg_mt_md (by decide), (hk_rcv k0), rfl, ?_⟩
  generalize ho : ((hk_of r.1, some (Value.int r.2)) : xH × Option Value) = o
  have hr : dn23 o r := ho.symm
  refine E_blk rfl ?_
  refine E_ps 4 (pc' := 4) (l' := [some (.ref x0), some (.int (0 : Int32)), some (.int (0 : Int32)), none]) (st' := []) rfl ?_
  exact E_wk (l' := [some (.ref x0), some (.int (0 : Int32)), some (.int (0 : Int32)), none]) ⟨rfl, rfl, rfl, trivial⟩ (s23_4_w k0 h hr)

-- 24: ThreePlates$Hand.tightest(Z)I
def dn24 (o : xH × Option Value) (r : xS × Int32) : Prop := o = (hk_of r.1, some (.int r.2))
def dn24_2 (sc : Option (Nat × (Nat → Int32))) (x0 : Nat) (x1 : Int32) (o : xH × Option Value) (r : ((Int32 × xS) ⊕ (xS × Int32))) : Prop := match r with
  | .inl q => Ev sc 2 24 [] 2 [some (.ref x0), some (.int x1), some (.int q.1), none] [] (hk_of q.2) o
  | .inr r => dn24 o r
def dn24_9 (sc : Option (Nat × (Nat → Int32))) (x0 : Nat) (x1 : Int32) (x2 : Int32) (o : xH × Option Value) (r : ((Int32 × xS) ⊕ ((Int32 × xS) ⊕ (xS × Int32)))) : Prop := match r with
  | .inl q => Ev sc 2 24 [] 9 [some (.ref x0), some (.int x1), some (.int x2), some (.int q.1)] [] (hk_of q.2) o
  | .inr r => dn24_2 sc x0 x1 o r
noncomputable def f24_33 (y0 : Int32) (s : xS) : Option (xS × Int32) := some (s, y0)
set_option maxRecDepth 20000 in
theorem s24_33 {sc : Option (Nat × (Nat → Int32))} {y0 : Int32} {s : xS} {o : xH × Option Value} {r : (xS × Int32)}  (h : f24_33 y0 s = some r) (hr : dn24 o r) : Ev sc 2 24 [] 33 [none, none, none, none] [.int y0] (hk_of s) o := by
  unfold f24_33 at h
  refine E_blk rfl ?_
  cases h
  exact E_ret rfl (pg_mt_md (by decide)) rfl hr
noncomputable def f24_9 (x0 : Nat) (x1 : Int32) (x2 : Int32) (x3 : Int32) (s : xS) : Option ((Int32 × xS) ⊕ ((Int32 × xS) ⊕ (xS × Int32))) := if (30 : Int32) < x3 then (Option.map Sum.inr (some (Sum.inl ((x2 + (1 : Int32)), s)))) else ((f22 x0 x3 x2 s).bind fun z2 => if z2.2 = 0 then (some (Sum.inl ((x3 + (1 : Int32)), z2.1))) else (Option.map Sum.inr (Option.map Sum.inr (if x1 = 0 then (f24_33 x3 z2.1) else (f24_33 x2 z2.1)))))
set_option maxRecDepth 20000 in
theorem s24_9 {sc : Option (Nat × (Nat → Int32))} {x0 : Nat} {x1 : Int32} {x2 : Int32} {x3 : Int32} {s : xS} {o : xH × Option Value} {r : ((Int32 × xS) ⊕ ((Int32 × xS) ⊕ (xS × Int32)))} (k0 : oK x0 2 = true) (h : f24_9 x0 x1 x2 x3 s = some r) (hr : dn24_9 sc x0 x1 x2 o r) : Ev sc 2 24 [] 9 [some (.ref x0), some (.int x1), some (.int x2), some (.int x3)] [] (hk_of s) o := by
  unfold f24_9 at h
  refine E_blk rfl ?_
  refine E_ps 2 (pc' := 12) (l' := [some (.ref x0), some (.int x1), some (.int x2), some (.int x3)]) (st' := [.int (30 : Int32), .int x3]) rfl ?_
  by_cases c1 : (30 : Int32) < x3
  · rw [if_pos c1] at h
    refine E_jt rfl rfl c1 ?_
    obtain ⟨r, h, hr⟩ := lf_some (Dn := dn24_9 sc x0 x1 x2 o) h hr
    refine E_blk rfl ?_
    refine E_ps 1 (pc' := 43) (l' := [some (.ref x0), some (.int x1), some (.int (x2 + (1 : Int32))), some (.int x3)]) (st' := []) rfl ?_
    refine E_j rfl rfl ?_
    cases h
    exact E_wk (l' := [some (.ref x0), some (.int x1), some (.int (x2 + (1 : Int32))), none]) ⟨rfl, rfl, rfl, trivial⟩ hr
  · rw [if_neg c1] at h
    refine E_jf rfl rfl c1 ?_
    refine E_blk rfl ?_
    refine E_ps 3 (pc' := 18) (l' := [some (.ref x0), some (.int x1), some (.int x2), some (.int x3)]) (st' := [.int x2, .int x3, .ref x0]) rfl ?_
    obtain ⟨z2, e3, h⟩ := Option.bind_eq_some_iff.mp h
    refine E_callI (vs := [.ref x0, .int x3, .int x2]) (rest := []) rfl (by decide) rfl rfl (Nat.le_of_ble_eq_true rfl) (s22 e3) (by decide) ?_
    by_cases c4 : z2.2 = 0
    · rw [if_pos c4] at h
      refine E_jt rfl rfl c4 ?_
      refine E_blk rfl ?_
      refine E_ps 1 (pc' := 37) (l' := [some (.ref x0), some (.int x1), some (.int x2), some (.int (x3 + (1 : Int32)))]) (st' := []) rfl ?_
      refine E_j rfl rfl ?_
      cases h
      exact E_wk (l' := [some (.ref x0), some (.int x1), some (.int x2), some (.int (x3 + (1 : Int32)))]) ⟨rfl, rfl, rfl, rfl, trivial⟩ hr
    · rw [if_neg c4] at h
      refine E_jf rfl rfl c4 ?_
      obtain ⟨r, h, hr⟩ := lf_some (Dn := dn24_9 sc x0 x1 x2 o) h hr
      obtain ⟨r, h, hr⟩ := lf_some (Dn := dn24_2 sc x0 x1 o) h hr
      refine E_blk rfl ?_
      refine E_ps 1 (pc' := 25) (l' := [some (.ref x0), some (.int x1), some (.int x2), some (.int x3)]) (st' := [.int x1]) rfl ?_
      by_cases c5 : x1 = 0
      · rw [if_pos c5] at h
        refine E_jt rfl rfl c5 ?_
        refine E_blk rfl ?_
        refine E_ps 1 (pc' := 33) (l' := [some (.ref x0), some (.int x1), some (.int x2), some (.int x3)]) (st' := [.int x3]) rfl ?_
        exact E_wk (l' := [none, none, none, none]) trivial (s24_33  h hr)
      · rw [if_neg c5] at h
        refine E_jf rfl rfl c5 ?_
        refine E_blk rfl ?_
        refine E_ps 1 (pc' := 29) (l' := [some (.ref x0), some (.int x1), some (.int x2), some (.int x3)]) (st' := [.int x2]) rfl ?_
        refine E_j rfl rfl ?_
        exact E_wk (l' := [none, none, none, none]) trivial (s24_33  h hr)
theorem s24_9_w {sc : Option (Nat × (Nat → Int32))} {x0 : Nat} {x1 : Int32} {x2 : Int32} {x3 : Int32} {s : xS} {o : xH × Option Value} {r : ((Int32 × xS) ⊕ (xS × Int32))} (k0 : oK x0 2 = true) (h : whl (fun q : (Int32 × xS) => f24_9 x0 x1 x2 q.1 q.2) (x3, s) = some r) (hr : dn24_2 sc x0 x1 o r) : Ev sc 2 24 [] 9 [some (.ref x0), some (.int x1), some (.int x2), some (.int x3)] [] (hk_of s) o := by
  refine whl_snd (E := fun q : (Int32 × xS) => Ev sc 2 24 [] 9 [some (.ref x0), some (.int x1), some (.int x2), some (.int q.1)] [] (hk_of q.2) o) (P := fun r => dn24_2 sc x0 x1 o r) (fun q r h hr => ?_) h hr
  exact s24_9 k0 h (by cases r <;> exact hr)
noncomputable def f24_2 (x0 : Nat) (x1 : Int32) (x2 : Int32) (s : xS) : Option ((Int32 × xS) ⊕ (xS × Int32)) := if (5 : Int32) < x2 then (Option.map Sum.inr (some (s, (-1 : Int32)))) else (whl (fun q : (Int32 × xS) => f24_9 x0 x1 x2 q.1 q.2) ((1 : Int32), s))
set_option maxRecDepth 20000 in
theorem s24_2 {sc : Option (Nat × (Nat → Int32))} {x0 : Nat} {x1 : Int32} {x2 : Int32} {s : xS} {o : xH × Option Value} {r : ((Int32 × xS) ⊕ (xS × Int32))} (k0 : oK x0 2 = true) (h : f24_2 x0 x1 x2 s = some r) (hr : dn24_2 sc x0 x1 o r) : Ev sc 2 24 [] 2 [some (.ref x0), some (.int x1), some (.int x2), none] [] (hk_of s) o := by
  unfold f24_2 at h
  refine E_blk rfl ?_
  refine E_ps 2 (pc' := 4) (l' := [some (.ref x0), some (.int x1), some (.int x2), none]) (st' := [.int (5 : Int32), .int x2]) rfl ?_
  by_cases c1 : (5 : Int32) < x2
  · rw [if_pos c1] at h
    refine E_jt rfl rfl c1 ?_
    obtain ⟨r, h, hr⟩ := lf_some (Dn := dn24_2 sc x0 x1 o) h hr
    refine E_blk rfl ?_
    refine E_ps 1 (pc' := 47) (l' := [some (.ref x0), some (.int x1), some (.int x2), none]) (st' := [.int (-1 : Int32)]) rfl ?_
    cases h
    exact E_ret rfl (pg_mt_md (by decide)) rfl hr
  · rw [if_neg c1] at h
    refine E_jf rfl rfl c1 ?_
    refine E_blk rfl ?_
    refine E_ps 2 (pc' := 9) (l' := [some (.ref x0), some (.int x1), some (.int x2), some (.int (1 : Int32))]) (st' := []) rfl ?_
    exact E_wk (l' := [some (.ref x0), some (.int x1), some (.int x2), some (.int (1 : Int32))]) ⟨rfl, rfl, rfl, rfl, trivial⟩ (s24_9_w k0 h hr)
theorem s24_2_w {sc : Option (Nat × (Nat → Int32))} {x0 : Nat} {x1 : Int32} {x2 : Int32} {s : xS} {o : xH × Option Value} {r : (xS × Int32)} (k0 : oK x0 2 = true) (h : whl (fun q : (Int32 × xS) => f24_2 x0 x1 q.1 q.2) (x2, s) = some r) (hr : dn24 o r) : Ev sc 2 24 [] 2 [some (.ref x0), some (.int x1), some (.int x2), none] [] (hk_of s) o := by
  refine whl_snd (E := fun q : (Int32 × xS) => Ev sc 2 24 [] 2 [some (.ref x0), some (.int x1), some (.int q.1), none] [] (hk_of q.2) o) (P := fun r => dn24 o r) (fun q r h hr => ?_) h hr
  exact s24_2 k0 h (by cases r <;> exact hr)
noncomputable def f24 (x0 : Nat) (x1 : Int32) (s : xS) : Option (xS × Int32) := ifg (oK x0 2 = true) <| whl (fun q : (Int32 × xS) => f24_2 x0 x1 q.1 q.2) ((0 : Int32), s)
set_option maxRecDepth 20000 in
theorem s24 {sc : Option (Nat × (Nat → Int32))} {x0 : Nat} {x1 : Int32} {s : xS} {r : xS × Int32} (h : f24 x0 x1 s = some r) : Cl sc 2 24 [.ref x0, .int x1] (hk_of s) (hk_of r.1, some (.int r.2)) := by
  unfold f24 at h
  obtain ⟨k0, h⟩ := ifg_some h
  refine ⟨pg_md 24, [some (.ref x0), some (.int x1), none, none], pg_mt_md (by decide), (hk_rcv k0), rfl, ?_⟩
  generalize ho : ((hk_of r.1, some (Value.int r.2)) : xH × Option Value) = o
  have hr : dn24 o r := ho.symm
  refine E_blk rfl ?_
  refine E_ps 2 (pc' := 2) (l' := [some (.ref x0), some (.int x1), some (.int (0 : Int32)), none]) (st' := []) rfl ?_
  exact E_wk (l' := [some (.ref x0), some (.int x1), some (.int (0 : Int32)), none]) ⟨rfl, rfl, rfl, trivial⟩ (s24_2_w k0 h hr)

-- 44: ThreePlates$Resting.begin()V
def dn44 (o : xH × Option Value) (r : xS × Unit) : Prop := o = (hk_of r.1, none)
noncomputable def f44 (x0 : Nat) (s : xS) : Option (xS × Unit) := ifg (oK x0 5 = true) <| (pI s x0 5 (0 : Int32)).bind fun t1 => (pI t1 x0 6 (0 : Int32)).bind fun t3 => (pI t3 x0 7 (0 : Int32)).bind fun t5 => some (t5, ())
set_option maxRecDepth 20000 in
theorem s44 {sc : Option (Nat × (Nat → Int32))} {x0 : Nat} {s : xS} {r : xS × Unit} (h : f44 x0 s = some r) : Cl sc 1 44 [.ref x0] (hk_of s) (hk_of r.1, none) := by
  unfold f44 at h
  obtain ⟨k0, h⟩ := ifg_some h
  refine ⟨pg_md 44, [some (.ref x0)], pg_mt_md (by decide), (hk_rcv k0), rfl, ?_⟩
  generalize ho : ((hk_of r.1, none) : xH × Option Value) = o
  have hr : dn44 o r := ho.symm
  refine E_blk rfl ?_
  refine E_ps 2 (pc' := 2) (l' := [some (.ref x0)]) (st' := [.int (0 : Int32), .ref x0]) rfl ?_
  obtain ⟨t1, e2, h⟩ := Option.bind_eq_some_iff.mp h
  refine E_pi k0 (by decide) rfl e2 ?_
  refine E_ps 2 (pc' := 7) (l' := [some (.ref x0)]) (st' := [.int (0 : Int32), .ref x0]) rfl ?_
  obtain ⟨t3, e4, h⟩ := Option.bind_eq_some_iff.mp h
  refine E_pi k0 (by decide) rfl e4 ?_
  refine E_ps 2 (pc' := 12) (l' := [some (.ref x0)]) (st' := [.int (0 : Int32), .ref x0]) rfl ?_
  obtain ⟨t5, e6, h⟩ := Option.bind_eq_some_iff.mp h
  refine E_pi k0 (by decide) rfl e6 ?_
  cases h
  exact E_ret rfl (pg_mt_md (by decide)) rfl hr

-- 45: ThreePlates$Resting.add(III)V
def dn45 (o : xH × Option Value) (r : xS × Unit) : Prop := o = (hk_of r.1, none)
noncomputable def f45 (x0 : Nat) (x1 : Int32) (x2 : Int32) (x3 : Int32) (s : xS) : Option (xS × Unit) := ifg (oK x0 5 = true) <| if (s.1 x0 5) < (25 : Int32) then ((hk_R x0 0).bind fun a2 => (wI s a2 (s.1 x0 5) x1).bind fun t4 => (hk_R x0 1).bind fun a6 => (wI t4 a6 (t4.1 x0 5) x2).bind fun t8 => (hk_R x0 2).bind fun a10 => (wI t8 a10 (t8.1 x0 5) x3).bind fun t12 => (pI t12 x0 6 ((t12.1 x0 6) + x1)).bind fun t14 => (pI t14 x0 7 ((t14.1 x0 7) + x2)).bind fun t16 => (pI t16 x0 5 ((t16.1 x0 5) + (1 : Int32))).bind fun t18 => some (t18, ())) else (some (s, ()))
set_option maxRecDepth 20000 in
theorem s45 {sc : Option (Nat × (Nat → Int32))} {x0 : Nat} {x1 : Int32} {x2 : Int32} {x3 : Int32} {s : xS} {r : xS × Unit} (h : f45 x0 x1 x2 x3 s = some r) : Cl sc 1 45 [.ref x0, .int x1, .int x2, .int x3] (hk_of s) (hk_of r.1, none) := by
  unfold f45 at h
  obtain ⟨k0, h⟩ := ifg_some h
  refine ⟨pg_md 45, [some (.ref x0), some (.int x1), some (.int x2), some (.int x3)], pg_mt_md (by decide), (hk_rcv k0), rfl, ?_⟩
  generalize ho : ((hk_of r.1, none) : xH × Option Value) = o
  have hr : dn45 o r := ho.symm
  refine E_blk rfl ?_
  refine E_ps 1 (pc' := 1) (l' := [some (.ref x0), some (.int x1), some (.int x2), some (.int x3)]) (st' := [.ref x0]) rfl ?_
  refine E_gi k0 (by decide) rfl ?_
  refine E_ps 1 (pc' := 6) (l' := [some (.ref x0), some (.int x1), some (.int x2), some (.int x3)]) (st' := [.int (25 : Int32), .int (s.1 x0 5)]) rfl ?_
  by_cases c1 : (s.1 x0 5) < (25 : Int32)
  · rw [if_pos c1] at h
    refine E_jt rfl rfl c1 ?_
    refine E_blk rfl ?_
    refine E_ps 1 (pc' := 11) (l' := [some (.ref x0), some (.int x1), some (.int x2), some (.int x3)]) (st' := [.ref x0]) rfl ?_
    obtain ⟨a2, e3, h⟩ := Option.bind_eq_some_iff.mp h
    refine E_gr k0 (by decide) rfl e3 ?_
    refine E_ps 1 (pc' := 15) (l' := [some (.ref x0), some (.int x1), some (.int x2), some (.int x3)]) (st' := [.ref x0, .ref a2]) rfl ?_
    refine E_gi k0 (by decide) rfl ?_
    refine E_ps 1 (pc' := 19) (l' := [some (.ref x0), some (.int x1), some (.int x2), some (.int x3)]) (st' := [.int x1, .int (s.1 x0 5), .ref a2]) rfl ?_
    obtain ⟨t4, e5, h⟩ := Option.bind_eq_some_iff.mp h
    refine E_wi e5 ?_
    refine E_ps 1 (pc' := 21) (l' := [some (.ref x0), some (.int x1), some (.int x2), some (.int x3)]) (st' := [.ref x0]) rfl ?_
    obtain ⟨a6, e7, h⟩ := Option.bind_eq_some_iff.mp h
    refine E_gr k0 (by decide) rfl e7 ?_
    refine E_ps 1 (pc' := 25) (l' := [some (.ref x0), some (.int x1), some (.int x2), some (.int x3)]) (st' := [.ref x0, .ref a6]) rfl ?_
    refine E_gi k0 (by decide) rfl ?_
    refine E_ps 1 (pc' := 29) (l' := [some (.ref x0), some (.int x1), some (.int x2), some (.int x3)]) (st' := [.int x2, .int (t4.1 x0 5), .ref a6]) rfl ?_
    obtain ⟨t8, e9, h⟩ := Option.bind_eq_some_iff.mp h
    refine E_wi e9 ?_
    refine E_ps 1 (pc' := 31) (l' := [some (.ref x0), some (.int x1), some (.int x2), some (.int x3)]) (st' := [.ref x0]) rfl ?_
    obtain ⟨a10, e11, h⟩ := Option.bind_eq_some_iff.mp h
    refine E_gr k0 (by decide) rfl e11 ?_
    refine E_ps 1 (pc' := 35) (l' := [some (.ref x0), some (.int x1), some (.int x2), some (.int x3)]) (st' := [.ref x0, .ref a10]) rfl ?_
    refine E_gi k0 (by decide) rfl ?_
    refine E_ps 1 (pc' := 39) (l' := [some (.ref x0), some (.int x1), some (.int x2), some (.int x3)]) (st' := [.int x3, .int (t8.1 x0 5), .ref a10]) rfl ?_
    obtain ⟨t12, e13, h⟩ := Option.bind_eq_some_iff.mp h
    refine E_wi e13 ?_
    refine E_ps 2 (pc' := 42) (l' := [some (.ref x0), some (.int x1), some (.int x2), some (.int x3)]) (st' := [.ref x0, .ref x0]) rfl ?_
    refine E_gi k0 (by decide) rfl ?_
    refine E_ps 2 (pc' := 47) (l' := [some (.ref x0), some (.int x1), some (.int x2), some (.int x3)]) (st' := [.int ((t12.1 x0 6) + x1), .ref x0]) rfl ?_
    obtain ⟨t14, e15, h⟩ := Option.bind_eq_some_iff.mp h
    refine E_pi k0 (by decide) rfl e15 ?_
    refine E_ps 2 (pc' := 52) (l' := [some (.ref x0), some (.int x1), some (.int x2), some (.int x3)]) (st' := [.ref x0, .ref x0]) rfl ?_
    refine E_gi k0 (by decide) rfl ?_
    refine E_ps 2 (pc' := 57) (l' := [some (.ref x0), some (.int x1), some (.int x2), some (.int x3)]) (st' := [.int ((t14.1 x0 7) + x2), .ref x0]) rfl ?_
    obtain ⟨t16, e17, h⟩ := Option.bind_eq_some_iff.mp h
    refine E_pi k0 (by decide) rfl e17 ?_
    refine E_ps 2 (pc' := 62) (l' := [some (.ref x0), some (.int x1), some (.int x2), some (.int x3)]) (st' := [.ref x0, .ref x0]) rfl ?_
    refine E_gi k0 (by decide) rfl ?_
    refine E_ps 2 (pc' := 67) (l' := [some (.ref x0), some (.int x1), some (.int x2), some (.int x3)]) (st' := [.int ((t16.1 x0 5) + (1 : Int32)), .ref x0]) rfl ?_
    obtain ⟨t18, e19, h⟩ := Option.bind_eq_some_iff.mp h
    refine E_pi k0 (by decide) rfl e19 ?_
    cases h
    exact E_ret rfl (pg_mt_md (by decide)) rfl hr
  · rw [if_neg c1] at h
    refine E_jf rfl rfl c1 ?_
    refine E_blk rfl ?_
    cases h
    exact E_ret rfl (pg_mt_md (by decide)) rfl hr

-- 29: ThreePlates$Laying.loadPairs()V
def dn29 (o : xH × Option Value) (r : xS × Unit) : Prop := o = (hk_of r.1, none)
def dn29_9 (sc : Option (Nat × (Nat → Int32))) (x0 : Nat) (o : xH × Option Value) (r : ((Int32 × xS) ⊕ (xS × Unit))) : Prop := match r with
  | .inl q => Ev sc 2 29 [] 9 [some (.ref x0), some (.int q.1), none] [] (hk_of q.2) o
  | .inr r => dn29 o r
noncomputable def f29_9 (x0 : Nat) (x1 : Int32) (s : xS) : Option ((Int32 × xS) ⊕ (xS × Unit)) := if (s.1 x0 7) ≤ x1 then (Option.map Sum.inr (some (s, ()))) else ((hk_R x0 5).bind fun a2 => (aI s a2 x1).bind fun v4 => (hk_R x0 1).bind fun a6 => (hk_R x0 0).bind fun a9 => ifg (¬ (s.1 a9 3) = 0) <| (hk_R x0 0).bind fun a13 => ifg (¬ (s.1 a13 3) = 0) <| (hk_R x0 2).bind fun a17 => (aI s a17 v4).bind fun v19 => (hk_R x0 3).bind fun a21 => (hk_R x0 6).bind fun a23 => (aI s a23 x1).bind fun v25 => (aI s a21 v25).bind fun v27 => (f45 a6 (irm v4 (s.1 a9 3)) (v4 / (s.1 a13 3)) (v19 + v27) s).bind fun z29 => some (Sum.inl ((x1 + (1 : Int32)), z29.1)))
set_option maxRecDepth 20000 in
theorem s29_9 {sc : Option (Nat × (Nat → Int32))} {x0 : Nat} {x1 : Int32} {s : xS} {o : xH × Option Value} {r : ((Int32 × xS) ⊕ (xS × Unit))} (k0 : oK x0 3 = true) (h : f29_9 x0 x1 s = some r) (hr : dn29_9 sc x0 o r) : Ev sc 2 29 [] 9 [some (.ref x0), some (.int x1), none] [] (hk_of s) o := by
  unfold f29_9 at h
  refine E_blk rfl ?_
  refine E_ps 2 (pc' := 11) (l' := [some (.ref x0), some (.int x1), none]) (st' := [.ref x0, .int x1]) rfl ?_
  refine E_gi k0 (by decide) rfl ?_
  by_cases c1 : (s.1 x0 7) ≤ x1
  · rw [if_pos c1] at h
    refine E_jt rfl rfl c1 ?_
    obtain ⟨r, h, hr⟩ := lf_some (Dn := dn29_9 sc x0 o) h hr
    refine E_blk rfl ?_
    cases h
    exact E_ret rfl (pg_mt_md (by decide)) rfl hr
  · rw [if_neg c1] at h
    refine E_jf rfl rfl c1 ?_
    refine E_blk rfl ?_
    refine E_ps 1 (pc' := 18) (l' := [some (.ref x0), some (.int x1), none]) (st' := [.ref x0]) rfl ?_
    obtain ⟨a2, e3, h⟩ := Option.bind_eq_some_iff.mp h
    refine E_gr k0 (by decide) rfl e3 ?_
    refine E_ps 1 (pc' := 22) (l' := [some (.ref x0), some (.int x1), none]) (st' := [.int x1, .ref a2]) rfl ?_
    obtain ⟨v4, e5, h⟩ := Option.bind_eq_some_iff.mp h
    refine E_ai e5 ?_
    refine E_ps 2 (pc' := 25) (l' := [some (.ref x0), some (.int x1), some (.int v4)]) (st' := [.ref x0]) rfl ?_
    obtain ⟨a6, e7, h⟩ := Option.bind_eq_some_iff.mp h
    refine E_gr k0 (by decide) rfl e7 ?_
    have kf8 : oK a6 5 = true := hk_rty k0 e7 rfl (by decide)
    refine E_ps 2 (pc' := 30) (l' := [some (.ref x0), some (.int x1), some (.int v4)]) (st' := [.ref x0, .int v4, .ref a6]) rfl ?_
    obtain ⟨a9, e10, h⟩ := Option.bind_eq_some_iff.mp h
    refine E_gr k0 (by decide) rfl e10 ?_
    have kf11 : oK a9 7 = true := hk_rty k0 e10 rfl (by decide)
    refine E_gi kf11 (by decide) rfl ?_
    obtain ⟨g12, h⟩ := ifg_some h
    refine E_irem g12 ?_
    refine E_ps 2 (pc' := 39) (l' := [some (.ref x0), some (.int x1), some (.int v4)]) (st' := [.ref x0, .int v4, .int (irm v4 (s.1 a9 3)), .ref a6]) rfl ?_
    obtain ⟨a13, e14, h⟩ := Option.bind_eq_some_iff.mp h
    refine E_gr k0 (by decide) rfl e14 ?_
    have kf15 : oK a13 7 = true := hk_rty k0 e14 rfl (by decide)
    refine E_gi kf15 (by decide) rfl ?_
    obtain ⟨g16, h⟩ := ifg_some h
    refine E_idiv g16 ?_
    refine E_ps 1 (pc' := 47) (l' := [some (.ref x0), some (.int x1), some (.int v4)]) (st' := [.ref x0, .int (v4 / (s.1 a13 3)), .int (irm v4 (s.1 a9 3)), .ref a6]) rfl ?_
    obtain ⟨a17, e18, h⟩ := Option.bind_eq_some_iff.mp h
    refine E_gr k0 (by decide) rfl e18 ?_
    refine E_ps 1 (pc' := 51) (l' := [some (.ref x0), some (.int x1), some (.int v4)]) (st' := [.int v4, .ref a17, .int (v4 / (s.1 a13 3)), .int (irm v4 (s.1 a9 3)), .ref a6]) rfl ?_
    obtain ⟨v19, e20, h⟩ := Option.bind_eq_some_iff.mp h
    refine E_ai e20 ?_
    refine E_ps 1 (pc' := 53) (l' := [some (.ref x0), some (.int x1), some (.int v4)]) (st' := [.ref x0, .int v19, .int (v4 / (s.1 a13 3)), .int (irm v4 (s.1 a9 3)), .ref a6]) rfl ?_
    obtain ⟨a21, e22, h⟩ := Option.bind_eq_some_iff.mp h
    refine E_gr k0 (by decide) rfl e22 ?_
    refine E_ps 1 (pc' := 57) (l' := [some (.ref x0), some (.int x1), some (.int v4)]) (st' := [.ref x0, .ref a21, .int v19, .int (v4 / (s.1 a13 3)), .int (irm v4 (s.1 a9 3)), .ref a6]) rfl ?_
    obtain ⟨a23, e24, h⟩ := Option.bind_eq_some_iff.mp h
    refine E_gr k0 (by decide) rfl e24 ?_
    refine E_ps 1 (pc' := 61) (l' := [some (.ref x0), some (.int x1), some (.int v4)]) (st' := [.int x1, .ref a23, .ref a21, .int v19, .int (v4 / (s.1 a13 3)), .int (irm v4 (s.1 a9 3)), .ref a6]) rfl ?_
    obtain ⟨v25, e26, h⟩ := Option.bind_eq_some_iff.mp h
    refine E_ai e26 ?_
    obtain ⟨v27, e28, h⟩ := Option.bind_eq_some_iff.mp h
    refine E_ai e28 ?_
    refine E_ps 1 (pc' := 64) (l' := [some (.ref x0), some (.int x1), some (.int v4)]) (st' := [.int (v19 + v27), .int (v4 / (s.1 a13 3)), .int (irm v4 (s.1 a9 3)), .ref a6]) rfl ?_
    obtain ⟨z29, e30, h⟩ := Option.bind_eq_some_iff.mp h
    refine E_callV (vs := [.ref a6, .int (irm v4 (s.1 a9 3)), .int (v4 / (s.1 a13 3)), .int (v19 + v27)]) (rest := []) rfl (by decide) rfl rfl (Nat.le_of_ble_eq_true rfl) (s45 e30) (by decide) ?_
    refine E_ps 1 (pc' := 70) (l' := [some (.ref x0), some (.int (x1 + (1 : Int32))), some (.int v4)]) (st' := []) rfl ?_
    refine E_j rfl rfl ?_
    cases h
    exact E_wk (l' := [some (.ref x0), some (.int (x1 + (1 : Int32))), none]) ⟨rfl, rfl, trivial⟩ hr
theorem s29_9_w {sc : Option (Nat × (Nat → Int32))} {x0 : Nat} {x1 : Int32} {s : xS} {o : xH × Option Value} {r : (xS × Unit)} (k0 : oK x0 3 = true) (h : whl (fun q : (Int32 × xS) => f29_9 x0 q.1 q.2) (x1, s) = some r) (hr : dn29 o r) : Ev sc 2 29 [] 9 [some (.ref x0), some (.int x1), none] [] (hk_of s) o := by
  refine whl_snd (E := fun q : (Int32 × xS) => Ev sc 2 29 [] 9 [some (.ref x0), some (.int q.1), none] [] (hk_of q.2) o) (P := fun r => dn29 o r) (fun q r h hr => ?_) h hr
  exact s29_9 k0 h (by cases r <;> exact hr)
noncomputable def f29 (x0 : Nat) (s : xS) : Option (xS × Unit) := ifg (oK x0 3 = true) <| (hk_R x0 1).bind fun a1 => (f44 a1 s).bind fun z4 => whl (fun q : (Int32 × xS) => f29_9 x0 q.1 q.2) ((0 : Int32), z4.1)
set_option maxRecDepth 20000 in
theorem s29 {sc : Option (Nat × (Nat → Int32))} {x0 : Nat} {s : xS} {r : xS × Unit} (h : f29 x0 s = some r) : Cl sc 2 29 [.ref x0] (hk_of s) (hk_of r.1, none) := by
  unfold f29 at h
  obtain ⟨k0, h⟩ := ifg_some h
  refine ⟨pg_md 29, [some (.ref x0), none, none], pg_mt_md (by decide), (hk_rcv k0), rfl, ?_⟩
  generalize ho : ((hk_of r.1, none) : xH × Option Value) = o
  have hr : dn29 o r := ho.symm
  refine E_blk rfl ?_
  refine E_ps 1 (pc' := 1) (l' := [some (.ref x0), none, none]) (st' := [.ref x0]) rfl ?_
  obtain ⟨a1, e2, h⟩ := Option.bind_eq_some_iff.mp h
  refine E_gr k0 (by decide) rfl e2 ?_
  have kf3 : oK a1 5 = true := hk_rty k0 e2 rfl (by decide)
  obtain ⟨z4, e5, h⟩ := Option.bind_eq_some_iff.mp h
  refine E_callV (vs := [.ref a1]) (rest := []) rfl (by decide) rfl rfl (Nat.le_of_ble_eq_true rfl) (s44 e5) (by decide) ?_
  refine E_ps 2 (pc' := 9) (l' := [some (.ref x0), some (.int (0 : Int32)), none]) (st' := []) rfl ?_
  exact E_wk (l' := [some (.ref x0), some (.int (0 : Int32)), none]) ⟨rfl, rfl, trivial⟩ (s29_9_w k0 h hr)

-- 50: ThreePlates$Resting.span(III)Z
def dn50 (o : xH × Option Value) (r : xS × Int32) : Prop := o = (hk_of r.1, some (.int r.2))
noncomputable def f50_90 (x0 : Nat) (x1 : Int32) (x2 : Int32) (x3 : Int32) (x4 : Int32) (x5 : Int32) (x6 : Int32) (x7 : Int32) (x8 : Int32) (y0 : Int32) (s : xS) : Option (xS × Int32) := (hk_R x0 2).bind fun a1 => (aI s a1 x2).bind fun v3 => (hk_R x0 2).bind fun a5 => (aI s a5 x1).bind fun v7 => (hk_R x0 2).bind fun a9 => (aI s a9 x3).bind fun v11 => (hk_R x0 2).bind fun a13 => (aI s a13 x1).bind fun v15 => (pI s x0 11 (y0 * x8)).bind fun t17 => (pI t17 x0 9 (((y0 * (v3 - v7)) * x7) - ((y0 * (v11 - v15)) * x5))).bind fun t19 => (pI t19 x0 10 ((x4 * (y0 * (v11 - v15))) - (x6 * (y0 * (v3 - v7))))).bind fun t21 => (hk_R x0 2).bind fun a23 => (aI t21 a23 x1).bind fun v25 => (hk_R x0 0).bind fun a27 => (aI t21 a27 x1).bind fun v29 => (hk_R x0 1).bind fun a31 => (aI t21 a31 x1).bind fun v33 => (pI t21 x0 8 (((v25 * (t21.1 x0 11)) - ((t21.1 x0 9) * v29)) - ((t21.1 x0 10) * v33))).bind fun t35 => some (t35, (1 : Int32))
set_option maxRecDepth 20000 in
theorem s50_90 {sc : Option (Nat × (Nat → Int32))} {x0 : Nat} {x1 : Int32} {x2 : Int32} {x3 : Int32} {x4 : Int32} {x5 : Int32} {x6 : Int32} {x7 : Int32} {x8 : Int32} {y0 : Int32} {s : xS} {o : xH × Option Value} {r : (xS × Int32)} (k0 : oK x0 5 = true) (h : f50_90 x0 x1 x2 x3 x4 x5 x6 x7 x8 y0 s = some r) (hr : dn50 o r) : Ev sc 1 50 [] 90 [some (.ref x0), some (.int x1), some (.int x2), some (.int x3), some (.int x4), some (.int x5), some (.int x6), some (.int x7), some (.int x8), none, none, none] [.int y0] (hk_of s) o := by
  unfold f50_90 at h
  refine E_blk rfl ?_
  refine E_ps 3 (pc' := 95) (l' := [some (.ref x0), some (.int x1), some (.int x2), some (.int x3), some (.int x4), some (.int x5), some (.int x6), some (.int x7), some (.int x8), some (.int y0), none, none]) (st' := [.ref x0, .int y0]) rfl ?_
  obtain ⟨a1, e2, h⟩ := Option.bind_eq_some_iff.mp h
  refine E_gr k0 (by decide) rfl e2 ?_
  refine E_ps 1 (pc' := 99) (l' := [some (.ref x0), some (.int x1), some (.int x2), some (.int x3), some (.int x4), some (.int x5), some (.int x6), some (.int x7), some (.int x8), some (.int y0), none, none]) (st' := [.int x2, .ref a1, .int y0]) rfl ?_
  obtain ⟨v3, e4, h⟩ := Option.bind_eq_some_iff.mp h
  refine E_ai e4 ?_
  refine E_ps 1 (pc' := 101) (l' := [some (.ref x0), some (.int x1), some (.int x2), some (.int x3), some (.int x4), some (.int x5), some (.int x6), some (.int x7), some (.int x8), some (.int y0), none, none]) (st' := [.ref x0, .int v3, .int y0]) rfl ?_
  obtain ⟨a5, e6, h⟩ := Option.bind_eq_some_iff.mp h
  refine E_gr k0 (by decide) rfl e6 ?_
  refine E_ps 1 (pc' := 105) (l' := [some (.ref x0), some (.int x1), some (.int x2), some (.int x3), some (.int x4), some (.int x5), some (.int x6), some (.int x7), some (.int x8), some (.int y0), none, none]) (st' := [.int x1, .ref a5, .int v3, .int y0]) rfl ?_
  obtain ⟨v7, e8, h⟩ := Option.bind_eq_some_iff.mp h
  refine E_ai e8 ?_
  refine E_ps 5 (pc' := 113) (l' := [some (.ref x0), some (.int x1), some (.int x2), some (.int x3), some (.int x4), some (.int x5), some (.int x6), some (.int x7), some (.int x8), some (.int y0), some (.int (y0 * (v3 - v7))), none]) (st' := [.ref x0, .int y0]) rfl ?_
  obtain ⟨a9, e10, h⟩ := Option.bind_eq_some_iff.mp h
  refine E_gr k0 (by decide) rfl e10 ?_
  refine E_ps 1 (pc' := 117) (l' := [some (.ref x0), some (.int x1), some (.int x2), some (.int x3), some (.int x4), some (.int x5), some (.int x6), some (.int x7), some (.int x8), some (.int y0), some (.int (y0 * (v3 - v7))), none]) (st' := [.int x3, .ref a9, .int y0]) rfl ?_
  obtain ⟨v11, e12, h⟩ := Option.bind_eq_some_iff.mp h
  refine E_ai e12 ?_
  refine E_ps 1 (pc' := 119) (l' := [some (.ref x0), some (.int x1), some (.int x2), some (.int x3), some (.int x4), some (.int x5), some (.int x6), some (.int x7), some (.int x8), some (.int y0), some (.int (y0 * (v3 - v7))), none]) (st' := [.ref x0, .int v11, .int y0]) rfl ?_
  obtain ⟨a13, e14, h⟩ := Option.bind_eq_some_iff.mp h
  refine E_gr k0 (by decide) rfl e14 ?_
  refine E_ps 1 (pc' := 123) (l' := [some (.ref x0), some (.int x1), some (.int x2), some (.int x3), some (.int x4), some (.int x5), some (.int x6), some (.int x7), some (.int x8), some (.int y0), some (.int (y0 * (v3 - v7))), none]) (st' := [.int x1, .ref a13, .int v11, .int y0]) rfl ?_
  obtain ⟨v15, e16, h⟩ := Option.bind_eq_some_iff.mp h
  refine E_ai e16 ?_
  refine E_ps 7 (pc' := 134) (l' := [some (.ref x0), some (.int x1), some (.int x2), some (.int x3), some (.int x4), some (.int x5), some (.int x6), some (.int x7), some (.int x8), some (.int y0), some (.int (y0 * (v3 - v7))), some (.int (y0 * (v11 - v15)))]) (st' := [.int (y0 * x8), .ref x0]) rfl ?_
  obtain ⟨t17, e18, h⟩ := Option.bind_eq_some_iff.mp h
  refine E_pi k0 (by decide) rfl e18 ?_
  refine E_ps 8 (pc' := 149) (l' := [some (.ref x0), some (.int x1), some (.int x2), some (.int x3), some (.int x4), some (.int x5), some (.int x6), some (.int x7), some (.int x8), some (.int y0), some (.int (y0 * (v3 - v7))), some (.int (y0 * (v11 - v15)))]) (st' := [.int (((y0 * (v3 - v7)) * x7) - ((y0 * (v11 - v15)) * x5)), .ref x0]) rfl ?_
  obtain ⟨t19, e20, h⟩ := Option.bind_eq_some_iff.mp h
  refine E_pi k0 (by decide) rfl e20 ?_
  refine E_ps 8 (pc' := 164) (l' := [some (.ref x0), some (.int x1), some (.int x2), some (.int x3), some (.int x4), some (.int x5), some (.int x6), some (.int x7), some (.int x8), some (.int y0), some (.int (y0 * (v3 - v7))), some (.int (y0 * (v11 - v15)))]) (st' := [.int ((x4 * (y0 * (v11 - v15))) - (x6 * (y0 * (v3 - v7)))), .ref x0]) rfl ?_
  obtain ⟨t21, e22, h⟩ := Option.bind_eq_some_iff.mp h
  refine E_pi k0 (by decide) rfl e22 ?_
  refine E_ps 2 (pc' := 169) (l' := [some (.ref x0), some (.int x1), some (.int x2), some (.int x3), some (.int x4), some (.int x5), some (.int x6), some (.int x7), some (.int x8), some (.int y0), some (.int (y0 * (v3 - v7))), some (.int (y0 * (v11 - v15)))]) (st' := [.ref x0, .ref x0]) rfl ?_
  obtain ⟨a23, e24, h⟩ := Option.bind_eq_some_iff.mp h
  refine E_gr k0 (by decide) rfl e24 ?_
  refine E_ps 1 (pc' := 173) (l' := [some (.ref x0), some (.int x1), some (.int x2), some (.int x3), some (.int x4), some (.int x5), some (.int x6), some (.int x7), some (.int x8), some (.int y0), some (.int (y0 * (v3 - v7))), some (.int (y0 * (v11 - v15)))]) (st' := [.int x1, .ref a23, .ref x0]) rfl ?_
  obtain ⟨v25, e26, h⟩ := Option.bind_eq_some_iff.mp h
  refine E_ai e26 ?_
  refine E_ps 1 (pc' := 175) (l' := [some (.ref x0), some (.int x1), some (.int x2), some (.int x3), some (.int x4), some (.int x5), some (.int x6), some (.int x7), some (.int x8), some (.int y0), some (.int (y0 * (v3 - v7))), some (.int (y0 * (v11 - v15)))]) (st' := [.ref x0, .int v25, .ref x0]) rfl ?_
  refine E_gi k0 (by decide) rfl ?_
  refine E_ps 2 (pc' := 180) (l' := [some (.ref x0), some (.int x1), some (.int x2), some (.int x3), some (.int x4), some (.int x5), some (.int x6), some (.int x7), some (.int x8), some (.int y0), some (.int (y0 * (v3 - v7))), some (.int (y0 * (v11 - v15)))]) (st' := [.ref x0, .int (v25 * (t21.1 x0 11)), .ref x0]) rfl ?_
  refine E_gi k0 (by decide) rfl ?_
  refine E_ps 1 (pc' := 184) (l' := [some (.ref x0), some (.int x1), some (.int x2), some (.int x3), some (.int x4), some (.int x5), some (.int x6), some (.int x7), some (.int x8), some (.int y0), some (.int (y0 * (v3 - v7))), some (.int (y0 * (v11 - v15)))]) (st' := [.ref x0, .int (t21.1 x0 9), .int (v25 * (t21.1 x0 11)), .ref x0]) rfl ?_
  obtain ⟨a27, e28, h⟩ := Option.bind_eq_some_iff.mp h
  refine E_gr k0 (by decide) rfl e28 ?_
  refine E_ps 1 (pc' := 188) (l' := [some (.ref x0), some (.int x1), some (.int x2), some (.int x3), some (.int x4), some (.int x5), some (.int x6), some (.int x7), some (.int x8), some (.int y0), some (.int (y0 * (v3 - v7))), some (.int (y0 * (v11 - v15)))]) (st' := [.int x1, .ref a27, .int (t21.1 x0 9), .int (v25 * (t21.1 x0 11)), .ref x0]) rfl ?_
  obtain ⟨v29, e30, h⟩ := Option.bind_eq_some_iff.mp h
  refine E_ai e30 ?_
  refine E_ps 3 (pc' := 192) (l' := [some (.ref x0), some (.int x1), some (.int x2), some (.int x3), some (.int x4), some (.int x5), some (.int x6), some (.int x7), some (.int x8), some (.int y0), some (.int (y0 * (v3 - v7))), some (.int (y0 * (v11 - v15)))]) (st' := [.ref x0, .int ((v25 * (t21.1 x0 11)) - ((t21.1 x0 9) * v29)), .ref x0]) rfl ?_
  refine E_gi k0 (by decide) rfl ?_
  refine E_ps 1 (pc' := 196) (l' := [some (.ref x0), some (.int x1), some (.int x2), some (.int x3), some (.int x4), some (.int x5), some (.int x6), some (.int x7), some (.int x8), some (.int y0), some (.int (y0 * (v3 - v7))), some (.int (y0 * (v11 - v15)))]) (st' := [.ref x0, .int (t21.1 x0 10), .int ((v25 * (t21.1 x0 11)) - ((t21.1 x0 9) * v29)), .ref x0]) rfl ?_
  obtain ⟨a31, e32, h⟩ := Option.bind_eq_some_iff.mp h
  refine E_gr k0 (by decide) rfl e32 ?_
  refine E_ps 1 (pc' := 200) (l' := [some (.ref x0), some (.int x1), some (.int x2), some (.int x3), some (.int x4), some (.int x5), some (.int x6), some (.int x7), some (.int x8), some (.int y0), some (.int (y0 * (v3 - v7))), some (.int (y0 * (v11 - v15)))]) (st' := [.int x1, .ref a31, .int (t21.1 x0 10), .int ((v25 * (t21.1 x0 11)) - ((t21.1 x0 9) * v29)), .ref x0]) rfl ?_
  obtain ⟨v33, e34, h⟩ := Option.bind_eq_some_iff.mp h
  refine E_ai e34 ?_
  refine E_ps 2 (pc' := 203) (l' := [some (.ref x0), some (.int x1), some (.int x2), some (.int x3), some (.int x4), some (.int x5), some (.int x6), some (.int x7), some (.int x8), some (.int y0), some (.int (y0 * (v3 - v7))), some (.int (y0 * (v11 - v15)))]) (st' := [.int (((v25 * (t21.1 x0 11)) - ((t21.1 x0 9) * v29)) - ((t21.1 x0 10) * v33)), .ref x0]) rfl ?_
  obtain ⟨t35, e36, h⟩ := Option.bind_eq_some_iff.mp h
  refine E_pi k0 (by decide) rfl e36 ?_
  refine E_ps 1 (pc' := 207) (l' := [some (.ref x0), some (.int x1), some (.int x2), some (.int x3), some (.int x4), some (.int x5), some (.int x6), some (.int x7), some (.int x8), some (.int y0), some (.int (y0 * (v3 - v7))), some (.int (y0 * (v11 - v15)))]) (st' := [.int (1 : Int32)]) rfl ?_
  cases h
  exact E_ret rfl (pg_mt_md (by decide)) rfl hr
noncomputable def f50 (x0 : Nat) (x1 : Int32) (x2 : Int32) (x3 : Int32) (s : xS) : Option (xS × Int32) := ifg (oK x0 5 = true) <| (hk_R x0 0).bind fun a1 => (aI s a1 x2).bind fun v3 => (hk_R x0 0).bind fun a5 => (aI s a5 x1).bind fun v7 => (hk_R x0 1).bind fun a9 => (aI s a9 x2).bind fun v11 => (hk_R x0 1).bind fun a13 => (aI s a13 x1).bind fun v15 => (hk_R x0 0).bind fun a17 => (aI s a17 x3).bind fun v19 => (hk_R x0 0).bind fun a21 => (aI s a21 x1).bind fun v23 => (hk_R x0 1).bind fun a25 => (aI s a25 x3).bind fun v27 => (hk_R x0 1).bind fun a29 => (aI s a29 x1).bind fun v31 => if (((v3 - v7) * (v27 - v31)) - ((v19 - v23) * (v11 - v15))) = 0 then (some (s, (0 : Int32))) else (if 0 ≤ (((v3 - v7) * (v27 - v31)) - ((v19 - v23) * (v11 - v15))) then (f50_90 x0 x1 x2 x3 (v3 - v7) (v11 - v15) (v19 - v23) (v27 - v31) (((v3 - v7) * (v27 - v31)) - ((v19 - v23) * (v11 - v15))) (1 : Int32) s) else (f50_90 x0 x1 x2 x3 (v3 - v7) (v11 - v15) (v19 - v23) (v27 - v31) (((v3 - v7) * (v27 - v31)) - ((v19 - v23) * (v11 - v15))) (-1 : Int32) s))
set_option maxRecDepth 20000 in
theorem s50 {sc : Option (Nat × (Nat → Int32))} {x0 : Nat} {x1 : Int32} {x2 : Int32} {x3 : Int32} {s : xS} {r : xS × Int32} (h : f50 x0 x1 x2 x3 s = some r) : Cl sc 1 50 [.ref x0, .int x1, .int x2, .int x3] (hk_of s) (hk_of r.1, some (.int r.2)) := by
  unfold f50 at h
  obtain ⟨k0, h⟩ := ifg_some h
  refine ⟨pg_md 50, [some (.ref x0), some (.int x1), some (.int x2), some (.int x3), none, none, none, none, none, none, none, none], pg_mt_md (by decide), (hk_rcv k0), rfl, ?_⟩
  generalize ho : ((hk_of r.1, some (Value.int r.2)) : xH × Option Value) = o
  have hr : dn50 o r := ho.symm
  refine E_blk rfl ?_
  refine E_ps 1 (pc' := 1) (l' := [some (.ref x0), some (.int x1), some (.int x2), some (.int x3), none, none, none, none, none, none, none, none]) (st' := [.ref x0]) rfl ?_
  obtain ⟨a1, e2, h⟩ := Option.bind_eq_some_iff.mp h
  refine E_gr k0 (by decide) rfl e2 ?_
  refine E_ps 1 (pc' := 5) (l' := [some (.ref x0), some (.int x1), some (.int x2), some (.int x3), none, none, none, none, none, none, none, none]) (st' := [.int x2, .ref a1]) rfl ?_
  obtain ⟨v3, e4, h⟩ := Option.bind_eq_some_iff.mp h
  refine E_ai e4 ?_
  refine E_ps 1 (pc' := 7) (l' := [some (.ref x0), some (.int x1), some (.int x2), some (.int x3), none, none, none, none, none, none, none, none]) (st' := [.ref x0, .int v3]) rfl ?_
  obtain ⟨a5, e6, h⟩ := Option.bind_eq_some_iff.mp h
  refine E_gr k0 (by decide) rfl e6 ?_
  refine E_ps 1 (pc' := 11) (l' := [some (.ref x0), some (.int x1), some (.int x2), some (.int x3), none, none, none, none, none, none, none, none]) (st' := [.int x1, .ref a5, .int v3]) rfl ?_
  obtain ⟨v7, e8, h⟩ := Option.bind_eq_some_iff.mp h
  refine E_ai e8 ?_
  refine E_ps 3 (pc' := 16) (l' := [some (.ref x0), some (.int x1), some (.int x2), some (.int x3), some (.int (v3 - v7)), none, none, none, none, none, none, none]) (st' := [.ref x0]) rfl ?_
  obtain ⟨a9, e10, h⟩ := Option.bind_eq_some_iff.mp h
  refine E_gr k0 (by decide) rfl e10 ?_
  refine E_ps 1 (pc' := 20) (l' := [some (.ref x0), some (.int x1), some (.int x2), some (.int x3), some (.int (v3 - v7)), none, none, none, none, none, none, none]) (st' := [.int x2, .ref a9]) rfl ?_
  obtain ⟨v11, e12, h⟩ := Option.bind_eq_some_iff.mp h
  refine E_ai e12 ?_
  refine E_ps 1 (pc' := 22) (l' := [some (.ref x0), some (.int x1), some (.int x2), some (.int x3), some (.int (v3 - v7)), none, none, none, none, none, none, none]) (st' := [.ref x0, .int v11]) rfl ?_
  obtain ⟨a13, e14, h⟩ := Option.bind_eq_some_iff.mp h
  refine E_gr k0 (by decide) rfl e14 ?_
  refine E_ps 1 (pc' := 26) (l' := [some (.ref x0), some (.int x1), some (.int x2), some (.int x3), some (.int (v3 - v7)), none, none, none, none, none, none, none]) (st' := [.int x1, .ref a13, .int v11]) rfl ?_
  obtain ⟨v15, e16, h⟩ := Option.bind_eq_some_iff.mp h
  refine E_ai e16 ?_
  refine E_ps 3 (pc' := 31) (l' := [some (.ref x0), some (.int x1), some (.int x2), some (.int x3), some (.int (v3 - v7)), some (.int (v11 - v15)), none, none, none, none, none, none]) (st' := [.ref x0]) rfl ?_
  obtain ⟨a17, e18, h⟩ := Option.bind_eq_some_iff.mp h
  refine E_gr k0 (by decide) rfl e18 ?_
  refine E_ps 1 (pc' := 35) (l' := [some (.ref x0), some (.int x1), some (.int x2), some (.int x3), some (.int (v3 - v7)), some (.int (v11 - v15)), none, none, none, none, none, none]) (st' := [.int x3, .ref a17]) rfl ?_
  obtain ⟨v19, e20, h⟩ := Option.bind_eq_some_iff.mp h
  refine E_ai e20 ?_
  refine E_ps 1 (pc' := 37) (l' := [some (.ref x0), some (.int x1), some (.int x2), some (.int x3), some (.int (v3 - v7)), some (.int (v11 - v15)), none, none, none, none, none, none]) (st' := [.ref x0, .int v19]) rfl ?_
  obtain ⟨a21, e22, h⟩ := Option.bind_eq_some_iff.mp h
  refine E_gr k0 (by decide) rfl e22 ?_
  refine E_ps 1 (pc' := 41) (l' := [some (.ref x0), some (.int x1), some (.int x2), some (.int x3), some (.int (v3 - v7)), some (.int (v11 - v15)), none, none, none, none, none, none]) (st' := [.int x1, .ref a21, .int v19]) rfl ?_
  obtain ⟨v23, e24, h⟩ := Option.bind_eq_some_iff.mp h
  refine E_ai e24 ?_
  refine E_ps 3 (pc' := 46) (l' := [some (.ref x0), some (.int x1), some (.int x2), some (.int x3), some (.int (v3 - v7)), some (.int (v11 - v15)), some (.int (v19 - v23)), none, none, none, none, none]) (st' := [.ref x0]) rfl ?_
  obtain ⟨a25, e26, h⟩ := Option.bind_eq_some_iff.mp h
  refine E_gr k0 (by decide) rfl e26 ?_
  refine E_ps 1 (pc' := 50) (l' := [some (.ref x0), some (.int x1), some (.int x2), some (.int x3), some (.int (v3 - v7)), some (.int (v11 - v15)), some (.int (v19 - v23)), none, none, none, none, none]) (st' := [.int x3, .ref a25]) rfl ?_
  obtain ⟨v27, e28, h⟩ := Option.bind_eq_some_iff.mp h
  refine E_ai e28 ?_
  refine E_ps 1 (pc' := 52) (l' := [some (.ref x0), some (.int x1), some (.int x2), some (.int x3), some (.int (v3 - v7)), some (.int (v11 - v15)), some (.int (v19 - v23)), none, none, none, none, none]) (st' := [.ref x0, .int v27]) rfl ?_
  obtain ⟨a29, e30, h⟩ := Option.bind_eq_some_iff.mp h
  refine E_gr k0 (by decide) rfl e30 ?_
  refine E_ps 1 (pc' := 56) (l' := [some (.ref x0), some (.int x1), some (.int x2), some (.int x3), some (.int (v3 - v7)), some (.int (v11 - v15)), some (.int (v19 - v23)), none, none, none, none, none]) (st' := [.int x1, .ref a29, .int v27]) rfl ?_
  obtain ⟨v31, e32, h⟩ := Option.bind_eq_some_iff.mp h
  refine E_ai e32 ?_
  refine E_ps 11 (pc' := 75) (l' := [some (.ref x0), some (.int x1), some (.int x2), some (.int x3), some (.int (v3 - v7)), some (.int (v11 - v15)), some (.int (v19 - v23)), some (.int (v27 - v31)), some (.int (((v3 - v7) * (v27 - v31)) - ((v19 - v23) * (v11 - v15)))), none, none, none]) (st' := [.int (((v3 - v7) * (v27 - v31)) - ((v19 - v23) * (v11 - v15)))]) rfl ?_
  by_cases c33 : (((v3 - v7) * (v27 - v31)) - ((v19 - v23) * (v11 - v15))) = 0
  · rw [if_pos c33] at h
    refine E_jt rfl rfl c33 ?_
    refine E_blk rfl ?_
    refine E_ps 1 (pc' := 79) (l' := [some (.ref x0), some (.int x1), some (.int x2), some (.int x3), some (.int (v3 - v7)), some (.int (v11 - v15)), some (.int (v19 - v23)), some (.int (v27 - v31)), some (.int (((v3 - v7) * (v27 - v31)) - ((v19 - v23) * (v11 - v15)))), none, none, none]) (st' := [.int (0 : Int32)]) rfl ?_
    cases h
    exact E_ret rfl (pg_mt_md (by decide)) rfl hr
  · rw [if_neg c33] at h
    refine E_jf rfl rfl c33 ?_
    refine E_blk rfl ?_
    refine E_ps 1 (pc' := 82) (l' := [some (.ref x0), some (.int x1), some (.int x2), some (.int x3), some (.int (v3 - v7)), some (.int (v11 - v15)), some (.int (v19 - v23)), some (.int (v27 - v31)), some (.int (((v3 - v7) * (v27 - v31)) - ((v19 - v23) * (v11 - v15)))), none, none, none]) (st' := [.int (((v3 - v7) * (v27 - v31)) - ((v19 - v23) * (v11 - v15)))]) rfl ?_
    by_cases c34 : 0 ≤ (((v3 - v7) * (v27 - v31)) - ((v19 - v23) * (v11 - v15)))
    · rw [if_pos c34] at h
      refine E_jt rfl rfl c34 ?_
      refine E_blk rfl ?_
      refine E_ps 1 (pc' := 90) (l' := [some (.ref x0), some (.int x1), some (.int x2), some (.int x3), some (.int (v3 - v7)), some (.int (v11 - v15)), some (.int (v19 - v23)), some (.int (v27 - v31)), some (.int (((v3 - v7) * (v27 - v31)) - ((v19 - v23) * (v11 - v15)))), none, none, none]) (st' := [.int (1 : Int32)]) rfl ?_
      exact E_wk (l' := [some (.ref x0), some (.int x1), some (.int x2), some (.int x3), some (.int (v3 - v7)), some (.int (v11 - v15)), some (.int (v19 - v23)), some (.int (v27 - v31)), some (.int (((v3 - v7) * (v27 - v31)) - ((v19 - v23) * (v11 - v15)))), none, none, none]) ⟨rfl, rfl, rfl, rfl, rfl, rfl, rfl, rfl, rfl, trivial⟩ (s50_90 k0 h hr)
    · rw [if_neg c34] at h
      refine E_jf rfl rfl c34 ?_
      refine E_blk rfl ?_
      refine E_ps 1 (pc' := 86) (l' := [some (.ref x0), some (.int x1), some (.int x2), some (.int x3), some (.int (v3 - v7)), some (.int (v11 - v15)), some (.int (v19 - v23)), some (.int (v27 - v31)), some (.int (((v3 - v7) * (v27 - v31)) - ((v19 - v23) * (v11 - v15)))), none, none, none]) (st' := [.int (-1 : Int32)]) rfl ?_
      refine E_j rfl rfl ?_
      exact E_wk (l' := [some (.ref x0), some (.int x1), some (.int x2), some (.int x3), some (.int (v3 - v7)), some (.int (v11 - v15)), some (.int (v19 - v23)), some (.int (v27 - v31)), some (.int (((v3 - v7) * (v27 - v31)) - ((v19 - v23) * (v11 - v15)))), none, none, none]) ⟨rfl, rfl, rfl, rfl, rfl, rfl, rfl, rfl, rfl, trivial⟩ (s50_90 k0 h hr)

-- 51: ThreePlates$Resting.firstAbove()I
def dn51 (o : xH × Option Value) (r : xS × Int32) : Prop := o = (hk_of r.1, some (.int r.2))
def dn51_2 (sc : Option (Nat × (Nat → Int32))) (x0 : Nat) (o : xH × Option Value) (r : ((Int32 × xS) ⊕ (xS × Int32))) : Prop := match r with
  | .inl q => Ev sc 1 51 [] 2 [some (.ref x0), some (.int q.1)] [] (hk_of q.2) o
  | .inr r => dn51 o r
noncomputable def f51_2 (x0 : Nat) (x1 : Int32) (s : xS) : Option ((Int32 × xS) ⊕ (xS × Int32)) := if (s.1 x0 5) ≤ x1 then (Option.map Sum.inr (some (s, (-1 : Int32)))) else ((hk_R x0 4).bind fun a2 => (hk_R x0 0).bind fun a4 => (aI s a4 x1).bind fun v6 => (hk_R x0 1).bind fun a8 => (aI s a8 x1).bind fun v10 => (hk_R x0 2).bind fun a12 => (aI s a12 x1).bind fun v14 => (wI s a2 x1 ((((s.1 x0 8) + ((s.1 x0 9) * v6)) + ((s.1 x0 10) * v10)) - (v14 * (s.1 x0 11)))).bind fun t16 => (hk_R x0 4).bind fun a18 => (aI t16 a18 x1).bind fun v20 => if 0 ≤ v20 then (some (Sum.inl ((x1 + (1 : Int32)), t16))) else (Option.map Sum.inr (some (t16, x1))))
set_option maxRecDepth 20000 in
theorem s51_2 {sc : Option (Nat × (Nat → Int32))} {x0 : Nat} {x1 : Int32} {s : xS} {o : xH × Option Value} {r : ((Int32 × xS) ⊕ (xS × Int32))} (k0 : oK x0 5 = true) (h : f51_2 x0 x1 s = some r) (hr : dn51_2 sc x0 o r) : Ev sc 1 51 [] 2 [some (.ref x0), some (.int x1)] [] (hk_of s) o := by
  unfold f51_2 at h
  refine E_blk rfl ?_
  refine E_ps 2 (pc' := 4) (l' := [some (.ref x0), some (.int x1)]) (st' := [.ref x0, .int x1]) rfl ?_
  refine E_gi k0 (by decide) rfl ?_
  by_cases c1 : (s.1 x0 5) ≤ x1
  · rw [if_pos c1] at h
    refine E_jt rfl rfl c1 ?_
    obtain ⟨r, h, hr⟩ := lf_some (Dn := dn51_2 sc x0 o) h hr
    refine E_blk rfl ?_
    refine E_ps 1 (pc' := 74) (l' := [some (.ref x0), some (.int x1)]) (st' := [.int (-1 : Int32)]) rfl ?_
    cases h
    exact E_ret rfl (pg_mt_md (by decide)) rfl hr
  · rw [if_neg c1] at h
    refine E_jf rfl rfl c1 ?_
    refine E_blk rfl ?_
    refine E_ps 1 (pc' := 11) (l' := [some (.ref x0), some (.int x1)]) (st' := [.ref x0]) rfl ?_
    obtain ⟨a2, e3, h⟩ := Option.bind_eq_some_iff.mp h
    refine E_gr k0 (by decide) rfl e3 ?_
    refine E_ps 2 (pc' := 16) (l' := [some (.ref x0), some (.int x1)]) (st' := [.ref x0, .int x1, .ref a2]) rfl ?_
    refine E_gi k0 (by decide) rfl ?_
    refine E_ps 1 (pc' := 20) (l' := [some (.ref x0), some (.int x1)]) (st' := [.ref x0, .int (s.1 x0 8), .int x1, .ref a2]) rfl ?_
    refine E_gi k0 (by decide) rfl ?_
    refine E_ps 1 (pc' := 24) (l' := [some (.ref x0), some (.int x1)]) (st' := [.ref x0, .int (s.1 x0 9), .int (s.1 x0 8), .int x1, .ref a2]) rfl ?_
    obtain ⟨a4, e5, h⟩ := Option.bind_eq_some_iff.mp h
    refine E_gr k0 (by decide) rfl e5 ?_
    refine E_ps 1 (pc' := 28) (l' := [some (.ref x0), some (.int x1)]) (st' := [.int x1, .ref a4, .int (s.1 x0 9), .int (s.1 x0 8), .int x1, .ref a2]) rfl ?_
    obtain ⟨v6, e7, h⟩ := Option.bind_eq_some_iff.mp h
    refine E_ai e7 ?_
    refine E_ps 3 (pc' := 32) (l' := [some (.ref x0), some (.int x1)]) (st' := [.ref x0, .int ((s.1 x0 8) + ((s.1 x0 9) * v6)), .int x1, .ref a2]) rfl ?_
    refine E_gi k0 (by decide) rfl ?_
    refine E_ps 1 (pc' := 36) (l' := [some (.ref x0), some (.int x1)]) (st' := [.ref x0, .int (s.1 x0 10), .int ((s.1 x0 8) + ((s.1 x0 9) * v6)), .int x1, .ref a2]) rfl ?_
    obtain ⟨a8, e9, h⟩ := Option.bind_eq_some_iff.mp h
    refine E_gr k0 (by decide) rfl e9 ?_
    refine E_ps 1 (pc' := 40) (l' := [some (.ref x0), some (.int x1)]) (st' := [.int x1, .ref a8, .int (s.1 x0 10), .int ((s.1 x0 8) + ((s.1 x0 9) * v6)), .int x1, .ref a2]) rfl ?_
    obtain ⟨v10, e11, h⟩ := Option.bind_eq_some_iff.mp h
    refine E_ai e11 ?_
    refine E_ps 3 (pc' := 44) (l' := [some (.ref x0), some (.int x1)]) (st' := [.ref x0, .int (((s.1 x0 8) + ((s.1 x0 9) * v6)) + ((s.1 x0 10) * v10)), .int x1, .ref a2]) rfl ?_
    obtain ⟨a12, e13, h⟩ := Option.bind_eq_some_iff.mp h
    refine E_gr k0 (by decide) rfl e13 ?_
    refine E_ps 1 (pc' := 48) (l' := [some (.ref x0), some (.int x1)]) (st' := [.int x1, .ref a12, .int (((s.1 x0 8) + ((s.1 x0 9) * v6)) + ((s.1 x0 10) * v10)), .int x1, .ref a2]) rfl ?_
    obtain ⟨v14, e15, h⟩ := Option.bind_eq_some_iff.mp h
    refine E_ai e15 ?_
    refine E_ps 1 (pc' := 50) (l' := [some (.ref x0), some (.int x1)]) (st' := [.ref x0, .int v14, .int (((s.1 x0 8) + ((s.1 x0 9) * v6)) + ((s.1 x0 10) * v10)), .int x1, .ref a2]) rfl ?_
    refine E_gi k0 (by decide) rfl ?_
    refine E_ps 2 (pc' := 55) (l' := [some (.ref x0), some (.int x1)]) (st' := [.int ((((s.1 x0 8) + ((s.1 x0 9) * v6)) + ((s.1 x0 10) * v10)) - (v14 * (s.1 x0 11))), .int x1, .ref a2]) rfl ?_
    obtain ⟨t16, e17, h⟩ := Option.bind_eq_some_iff.mp h
    refine E_wi e17 ?_
    refine E_ps 1 (pc' := 57) (l' := [some (.ref x0), some (.int x1)]) (st' := [.ref x0]) rfl ?_
    obtain ⟨a18, e19, h⟩ := Option.bind_eq_some_iff.mp h
    refine E_gr k0 (by decide) rfl e19 ?_
    refine E_ps 1 (pc' := 61) (l' := [some (.ref x0), some (.int x1)]) (st' := [.int x1, .ref a18]) rfl ?_
    obtain ⟨v20, e21, h⟩ := Option.bind_eq_some_iff.mp h
    refine E_ai e21 ?_
    by_cases c22 : 0 ≤ v20
    · rw [if_pos c22] at h
      refine E_jt rfl rfl c22 ?_
      refine E_blk rfl ?_
      refine E_ps 1 (pc' := 70) (l' := [some (.ref x0), some (.int (x1 + (1 : Int32)))]) (st' := []) rfl ?_
      refine E_j rfl rfl ?_
      cases h
      exact E_wk (l' := [some (.ref x0), some (.int (x1 + (1 : Int32)))]) ⟨rfl, rfl, trivial⟩ hr
    · rw [if_neg c22] at h
      refine E_jf rfl rfl c22 ?_
      obtain ⟨r, h, hr⟩ := lf_some (Dn := dn51_2 sc x0 o) h hr
      refine E_blk rfl ?_
      refine E_ps 1 (pc' := 66) (l' := [some (.ref x0), some (.int x1)]) (st' := [.int x1]) rfl ?_
      cases h
      exact E_ret rfl (pg_mt_md (by decide)) rfl hr
theorem s51_2_w {sc : Option (Nat × (Nat → Int32))} {x0 : Nat} {x1 : Int32} {s : xS} {o : xH × Option Value} {r : (xS × Int32)} (k0 : oK x0 5 = true) (h : whl (fun q : (Int32 × xS) => f51_2 x0 q.1 q.2) (x1, s) = some r) (hr : dn51 o r) : Ev sc 1 51 [] 2 [some (.ref x0), some (.int x1)] [] (hk_of s) o := by
  refine whl_snd (E := fun q : (Int32 × xS) => Ev sc 1 51 [] 2 [some (.ref x0), some (.int q.1)] [] (hk_of q.2) o) (P := fun r => dn51 o r) (fun q r h hr => ?_) h hr
  exact s51_2 k0 h (by cases r <;> exact hr)
noncomputable def f51 (x0 : Nat) (s : xS) : Option (xS × Int32) := ifg (oK x0 5 = true) <| whl (fun q : (Int32 × xS) => f51_2 x0 q.1 q.2) ((0 : Int32), s)
set_option maxRecDepth 20000 in
theorem s51 {sc : Option (Nat × (Nat → Int32))} {x0 : Nat} {s : xS} {r : xS × Int32} (h : f51 x0 s = some r) : Cl sc 1 51 [.ref x0] (hk_of s) (hk_of r.1, some (.int r.2)) := by
  unfold f51 at h
  obtain ⟨k0, h⟩ := ifg_some h
  refine ⟨pg_md 51, [some (.ref x0), none], pg_mt_md (by decide), (hk_rcv k0), rfl, ?_⟩
  generalize ho : ((hk_of r.1, some (Value.int r.2)) : xH × Option Value) = o
  have hr : dn51 o r := ho.symm
  refine E_blk rfl ?_
  refine E_ps 2 (pc' := 2) (l' := [some (.ref x0), some (.int (0 : Int32))]) (st' := []) rfl ?_
  exact E_wk (l' := [some (.ref x0), some (.int (0 : Int32))]) ⟨rfl, rfl, trivial⟩ (s51_2_w k0 h hr)

-- 53: ThreePlates$Resting.weight(IIII)I
def dn53 (o : xH × Option Value) (r : xS × Int32) : Prop := o = (hk_of r.1, some (.int r.2))
noncomputable def f53 (x0 : Nat) (x1 : Int32) (x2 : Int32) (x3 : Int32) (x4 : Int32) (s : xS) : Option (xS × Int32) := ifg (oK x0 5 = true) <| (hk_R x0 3).bind fun a1 => (aI s a1 (irm (x1 + (1 : Int32)) (3 : Int32))).bind fun v3 => (hk_R x0 3).bind fun a5 => (aI s a5 (irm (x1 + (2 : Int32)) (3 : Int32))).bind fun v7 => (hk_R x0 0).bind fun a9 => (aI s a9 v3).bind fun v11 => (hk_R x0 1).bind fun a13 => (aI s a13 v7).bind fun v15 => (hk_R x0 0).bind fun a17 => (aI s a17 v7).bind fun v19 => (hk_R x0 1).bind fun a21 => (aI s a21 v3).bind fun v23 => (hk_R x0 0).bind fun a25 => (aI s a25 v7).bind fun v27 => (hk_R x0 0).bind fun a29 => (aI s a29 v3).bind fun v31 => (hk_R x0 1).bind fun a33 => (aI s a33 v7).bind fun v35 => (hk_R x0 1).bind fun a37 => (aI s a37 v3).bind fun v39 => some (s, (((x4 * ((v11 * v15) - (v19 * v23))) + (x3 * (v27 - v31))) - (x2 * (v35 - v39))))
set_option maxRecDepth 20000 in
theorem s53 {sc : Option (Nat × (Nat → Int32))} {x0 : Nat} {x1 : Int32} {x2 : Int32} {x3 : Int32} {x4 : Int32} {s : xS} {r : xS × Int32} (h : f53 x0 x1 x2 x3 x4 s = some r) : Cl sc 1 53 [.ref x0, .int x1, .int x2, .int x3, .int x4] (hk_of s) (hk_of r.1, some (.int r.2)) := by
  unfold f53 at h
  obtain ⟨k0, h⟩ := ifg_some h
  refine ⟨pg_md 53, [some (.ref x0), some (.int x1), some (.int x2), some (.int x3), some (.int x4), none, none], pg_mt_md (by decide), (hk_rcv k0), rfl, ?_⟩
  generalize ho : ((hk_of r.1, some (Value.int r.2)) : xH × Option Value) = o
  have hr : dn53 o r := ho.symm
  refine E_blk rfl ?_
  refine E_ps 1 (pc' := 1) (l' := [some (.ref x0), some (.int x1), some (.int x2), some (.int x3), some (.int x4), none, none]) (st' := [.ref x0]) rfl ?_
  obtain ⟨a1, e2, h⟩ := Option.bind_eq_some_iff.mp h
  refine E_gr k0 (by decide) rfl e2 ?_
  refine E_ps 4 (pc' := 8) (l' := [some (.ref x0), some (.int x1), some (.int x2), some (.int x3), some (.int x4), none, none]) (st' := [.int (3 : Int32), .int (x1 + (1 : Int32)), .ref a1]) rfl ?_
  refine E_irem (by decide) ?_
  obtain ⟨v3, e4, h⟩ := Option.bind_eq_some_iff.mp h
  refine E_ai e4 ?_
  refine E_ps 2 (pc' := 13) (l' := [some (.ref x0), some (.int x1), some (.int x2), some (.int x3), some (.int x4), some (.int v3), none]) (st' := [.ref x0]) rfl ?_
  obtain ⟨a5, e6, h⟩ := Option.bind_eq_some_iff.mp h
  refine E_gr k0 (by decide) rfl e6 ?_
  refine E_ps 4 (pc' := 20) (l' := [some (.ref x0), some (.int x1), some (.int x2), some (.int x3), some (.int x4), some (.int v3), none]) (st' := [.int (3 : Int32), .int (x1 + (2 : Int32)), .ref a5]) rfl ?_
  refine E_irem (by decide) ?_
  obtain ⟨v7, e8, h⟩ := Option.bind_eq_some_iff.mp h
  refine E_ai e8 ?_
  refine E_ps 3 (pc' := 27) (l' := [some (.ref x0), some (.int x1), some (.int x2), some (.int x3), some (.int x4), some (.int v3), some (.int v7)]) (st' := [.ref x0, .int x4]) rfl ?_
  obtain ⟨a9, e10, h⟩ := Option.bind_eq_some_iff.mp h
  refine E_gr k0 (by decide) rfl e10 ?_
  refine E_ps 1 (pc' := 32) (l' := [some (.ref x0), some (.int x1), some (.int x2), some (.int x3), some (.int x4), some (.int v3), some (.int v7)]) (st' := [.int v3, .ref a9, .int x4]) rfl ?_
  obtain ⟨v11, e12, h⟩ := Option.bind_eq_some_iff.mp h
  refine E_ai e12 ?_
  refine E_ps 1 (pc' := 34) (l' := [some (.ref x0), some (.int x1), some (.int x2), some (.int x3), some (.int x4), some (.int v3), some (.int v7)]) (st' := [.ref x0, .int v11, .int x4]) rfl ?_
  obtain ⟨a13, e14, h⟩ := Option.bind_eq_some_iff.mp h
  refine E_gr k0 (by decide) rfl e14 ?_
  refine E_ps 1 (pc' := 39) (l' := [some (.ref x0), some (.int x1), some (.int x2), some (.int x3), some (.int x4), some (.int v3), some (.int v7)]) (st' := [.int v7, .ref a13, .int v11, .int x4]) rfl ?_
  obtain ⟨v15, e16, h⟩ := Option.bind_eq_some_iff.mp h
  refine E_ai e16 ?_
  refine E_ps 2 (pc' := 42) (l' := [some (.ref x0), some (.int x1), some (.int x2), some (.int x3), some (.int x4), some (.int v3), some (.int v7)]) (st' := [.ref x0, .int (v11 * v15), .int x4]) rfl ?_
  obtain ⟨a17, e18, h⟩ := Option.bind_eq_some_iff.mp h
  refine E_gr k0 (by decide) rfl e18 ?_
  refine E_ps 1 (pc' := 47) (l' := [some (.ref x0), some (.int x1), some (.int x2), some (.int x3), some (.int x4), some (.int v3), some (.int v7)]) (st' := [.int v7, .ref a17, .int (v11 * v15), .int x4]) rfl ?_
  obtain ⟨v19, e20, h⟩ := Option.bind_eq_some_iff.mp h
  refine E_ai e20 ?_
  refine E_ps 1 (pc' := 49) (l' := [some (.ref x0), some (.int x1), some (.int x2), some (.int x3), some (.int x4), some (.int v3), some (.int v7)]) (st' := [.ref x0, .int v19, .int (v11 * v15), .int x4]) rfl ?_
  obtain ⟨a21, e22, h⟩ := Option.bind_eq_some_iff.mp h
  refine E_gr k0 (by decide) rfl e22 ?_
  refine E_ps 1 (pc' := 54) (l' := [some (.ref x0), some (.int x1), some (.int x2), some (.int x3), some (.int x4), some (.int v3), some (.int v7)]) (st' := [.int v3, .ref a21, .int v19, .int (v11 * v15), .int x4]) rfl ?_
  obtain ⟨v23, e24, h⟩ := Option.bind_eq_some_iff.mp h
  refine E_ai e24 ?_
  refine E_ps 5 (pc' := 60) (l' := [some (.ref x0), some (.int x1), some (.int x2), some (.int x3), some (.int x4), some (.int v3), some (.int v7)]) (st' := [.ref x0, .int x3, .int (x4 * ((v11 * v15) - (v19 * v23)))]) rfl ?_
  obtain ⟨a25, e26, h⟩ := Option.bind_eq_some_iff.mp h
  refine E_gr k0 (by decide) rfl e26 ?_
  refine E_ps 1 (pc' := 65) (l' := [some (.ref x0), some (.int x1), some (.int x2), some (.int x3), some (.int x4), some (.int v3), some (.int v7)]) (st' := [.int v7, .ref a25, .int x3, .int (x4 * ((v11 * v15) - (v19 * v23)))]) rfl ?_
  obtain ⟨v27, e28, h⟩ := Option.bind_eq_some_iff.mp h
  refine E_ai e28 ?_
  refine E_ps 1 (pc' := 67) (l' := [some (.ref x0), some (.int x1), some (.int x2), some (.int x3), some (.int x4), some (.int v3), some (.int v7)]) (st' := [.ref x0, .int v27, .int x3, .int (x4 * ((v11 * v15) - (v19 * v23)))]) rfl ?_
  obtain ⟨a29, e30, h⟩ := Option.bind_eq_some_iff.mp h
  refine E_gr k0 (by decide) rfl e30 ?_
  refine E_ps 1 (pc' := 72) (l' := [some (.ref x0), some (.int x1), some (.int x2), some (.int x3), some (.int x4), some (.int v3), some (.int v7)]) (st' := [.int v3, .ref a29, .int v27, .int x3, .int (x4 * ((v11 * v15) - (v19 * v23)))]) rfl ?_
  obtain ⟨v31, e32, h⟩ := Option.bind_eq_some_iff.mp h
  refine E_ai e32 ?_
  refine E_ps 5 (pc' := 78) (l' := [some (.ref x0), some (.int x1), some (.int x2), some (.int x3), some (.int x4), some (.int v3), some (.int v7)]) (st' := [.ref x0, .int x2, .int ((x4 * ((v11 * v15) - (v19 * v23))) + (x3 * (v27 - v31)))]) rfl ?_
  obtain ⟨a33, e34, h⟩ := Option.bind_eq_some_iff.mp h
  refine E_gr k0 (by decide) rfl e34 ?_
  refine E_ps 1 (pc' := 83) (l' := [some (.ref x0), some (.int x1), some (.int x2), some (.int x3), some (.int x4), some (.int v3), some (.int v7)]) (st' := [.int v7, .ref a33, .int x2, .int ((x4 * ((v11 * v15) - (v19 * v23))) + (x3 * (v27 - v31)))]) rfl ?_
  obtain ⟨v35, e36, h⟩ := Option.bind_eq_some_iff.mp h
  refine E_ai e36 ?_
  refine E_ps 1 (pc' := 85) (l' := [some (.ref x0), some (.int x1), some (.int x2), some (.int x3), some (.int x4), some (.int v3), some (.int v7)]) (st' := [.ref x0, .int v35, .int x2, .int ((x4 * ((v11 * v15) - (v19 * v23))) + (x3 * (v27 - v31)))]) rfl ?_
  obtain ⟨a37, e38, h⟩ := Option.bind_eq_some_iff.mp h
  refine E_gr k0 (by decide) rfl e38 ?_
  refine E_ps 1 (pc' := 90) (l' := [some (.ref x0), some (.int x1), some (.int x2), some (.int x3), some (.int x4), some (.int v3), some (.int v7)]) (st' := [.int v3, .ref a37, .int v35, .int x2, .int ((x4 * ((v11 * v15) - (v19 * v23))) + (x3 * (v27 - v31)))]) rfl ?_
  obtain ⟨v39, e40, h⟩ := Option.bind_eq_some_iff.mp h
  refine E_ai e40 ?_
  refine E_ps 3 (pc' := 94) (l' := [some (.ref x0), some (.int x1), some (.int x2), some (.int x3), some (.int x4), some (.int v3), some (.int v7)]) (st' := [.int (((x4 * ((v11 * v15) - (v19 * v23))) + (x3 * (v27 - v31))) - (x2 * (v35 - v39)))]) rfl ?_
  cases h
  exact E_ret rfl (pg_mt_md (by decide)) rfl hr

-- 284: java/lang/Integer.compare(II)I
def dn284 (o : xH × Option Value) (r : xS × Int32) : Prop := o = (hk_of r.1, some (.int r.2))
noncomputable def f284_19 (y0 : Int32) (s : xS) : Option (xS × Int32) := some (s, y0)
set_option maxRecDepth 20000 in
theorem s284_19 {sc : Option (Nat × (Nat → Int32))} {y0 : Int32} {s : xS} {o : xH × Option Value} {r : (xS × Int32)}  (h : f284_19 y0 s = some r) (hr : dn284 o r) : Ev sc 1 284 [] 19 [none, none] [.int y0] (hk_of s) o := by
  unfold f284_19 at h
  refine E_blk rfl ?_
  cases h
  exact E_ret rfl (pg_mt_md (by decide)) rfl hr
noncomputable def f284 (x0 : Int32) (x1 : Int32) (s : xS) : Option (xS × Int32) :=  if x1 ≤ x0 then (if x0 = x1 then (f284_19 (0 : Int32) s) else (f284_19 (1 : Int32) s)) else (f284_19 (-1 : Int32) s)
set_option maxRecDepth 20000 in
theorem s284 {sc : Option (Nat × (Nat → Int32))} {x0 : Int32} {x1 : Int32} {s : xS} {r : xS × Int32} (h : f284 x0 x1 s = some r) : Cl sc 1 284 [.int x0, .int x1] (hk_of s) (hk_of r.1, some (.int r.2)) := by
  unfold f284 at h
  refine ⟨pg_md 284, [some (.int x0), some (.int x1)], pg_mt_md (by decide), rfl, rfl, ?_⟩
  generalize ho : ((hk_of r.1, some (Value.int r.2)) : xH × Option Value) = o
  have hr : dn284 o r := ho.symm
  refine E_blk rfl ?_
  refine E_ps 2 (pc' := 2) (l' := [some (.int x0), some (.int x1)]) (st' := [.int x1, .int x0]) rfl ?_
  by_cases c1 : x1 ≤ x0
  · rw [if_pos c1] at h
    refine E_jt rfl rfl c1 ?_
    refine E_blk rfl ?_
    refine E_ps 2 (pc' := 11) (l' := [some (.int x0), some (.int x1)]) (st' := [.int x1, .int x0]) rfl ?_
    by_cases c2 : x0 = x1
    · rw [if_pos c2] at h
      refine E_jt rfl rfl c2 ?_
      refine E_blk rfl ?_
      refine E_ps 1 (pc' := 15) (l' := [some (.int x0), some (.int x1)]) (st' := [.int (0 : Int32)]) rfl ?_
      refine E_j rfl rfl ?_
      exact E_wk (l' := [none, none]) trivial (s284_19  h hr)
    · rw [if_neg c2] at h
      refine E_jf rfl rfl c2 ?_
      refine E_blk rfl ?_
      refine E_ps 1 (pc' := 19) (l' := [some (.int x0), some (.int x1)]) (st' := [.int (1 : Int32)]) rfl ?_
      exact E_wk (l' := [none, none]) trivial (s284_19  h hr)
  · rw [if_neg c1] at h
    refine E_jf rfl rfl c1 ?_
    refine E_blk rfl ?_
    refine E_ps 1 (pc' := 6) (l' := [some (.int x0), some (.int x1)]) (st' := [.int (-1 : Int32)]) rfl ?_
    refine E_j rfl rfl ?_
    exact E_wk (l' := [none, none]) trivial (s284_19  h hr)

-- 52: ThreePlates$Resting.exchange(I)V
def dn52 (o : xH × Option Value) (r : xS × Unit) : Prop := o = (hk_of r.1, none)
def dn52_10 (sc : Option (Nat × (Nat → Int32))) (x0 : Nat) (x1 : Int32) (o : xH × Option Value) (r : ((Int32 × Int32 × Int32 × Int32 × xS) ⊕ (xS × Unit))) : Prop := match r with
  | .inl q => Ev sc 2 52 [] 10 [some (.ref x0), some (.int x1), some (.int q.1), some (.int q.2.1), some (.int q.2.2.1), some (.int q.2.2.2.1), none, none, none] [] (hk_of q.2.2.2.2) o
  | .inr r => dn52 o r
noncomputable def f52_120 (x0 : Nat) (x1 : Int32) (x2 : Int32) (x3 : Int32) (x4 : Int32) (x5 : Int32) (s : xS) : Option ((Int32 × Int32 × Int32 × Int32 × xS) ⊕ (xS × Unit)) := some (Sum.inl (x2, x3, x4, (x5 + (1 : Int32)), s))
set_option maxRecDepth 20000 in
theorem s52_120 {sc : Option (Nat × (Nat → Int32))} {x0 : Nat} {x1 : Int32} {x2 : Int32} {x3 : Int32} {x4 : Int32} {x5 : Int32} {s : xS} {o : xH × Option Value} {r : ((Int32 × Int32 × Int32 × Int32 × xS) ⊕ (xS × Unit))} (k0 : oK x0 5 = true) (h : f52_120 x0 x1 x2 x3 x4 x5 s = some r) (hr : dn52_10 sc x0 x1 o r) : Ev sc 2 52 [] 120 [some (.ref x0), some (.int x1), some (.int x2), some (.int x3), some (.int x4), some (.int x5), none, none, none] [] (hk_of s) o := by
  unfold f52_120 at h
  refine E_blk rfl ?_
  refine E_ps 1 (pc' := 123) (l' := [some (.ref x0), some (.int x1), some (.int x2), some (.int x3), some (.int x4), some (.int (x5 + (1 : Int32))), none, none, none]) (st' := []) rfl ?_
  refine E_j rfl rfl ?_
  cases h
  exact E_wk (l' := [some (.ref x0), some (.int x1), some (.int x2), some (.int x3), some (.int x4), some (.int (x5 + (1 : Int32))), none, none, none]) ⟨rfl, rfl, rfl, rfl, rfl, rfl, trivial⟩ hr
noncomputable def f52_138  (s : xS) : Option (xS × Unit) := some (s, ())
set_option maxRecDepth 20000 in
theorem s52_138 {sc : Option (Nat × (Nat → Int32))}  {s : xS} {o : xH × Option Value} {r : (xS × Unit)}  (h : f52_138  s = some r) (hr : dn52 o r) : Ev sc 2 52 [] 138 [none, none, none, none, none, none, none, none, none] [] (hk_of s) o := by
  unfold f52_138 at h
  refine E_blk rfl ?_
  cases h
  exact E_ret rfl (pg_mt_md (by decide)) rfl hr
noncomputable def f52_110 (x0 : Nat) (x1 : Int32) (x5 : Int32) (x6 : Int32) (x7 : Int32) (s : xS) : Option ((Int32 × Int32 × Int32 × Int32 × xS) ⊕ (xS × Unit)) := f52_120 x0 x1 x5 x6 x7 x5 s
set_option maxRecDepth 20000 in
theorem s52_110 {sc : Option (Nat × (Nat → Int32))} {x0 : Nat} {x1 : Int32} {x5 : Int32} {x6 : Int32} {x7 : Int32} {s : xS} {o : xH × Option Value} {r : ((Int32 × Int32 × Int32 × Int32 × xS) ⊕ (xS × Unit))} (k0 : oK x0 5 = true) (h : f52_110 x0 x1 x5 x6 x7 s = some r) (hr : dn52_10 sc x0 x1 o r) : Ev sc 2 52 [] 110 [some (.ref x0), some (.int x1), none, none, none, some (.int x5), some (.int x6), some (.int x7), none] [] (hk_of s) o := by
  unfold f52_110 at h
  refine E_blk rfl ?_
  refine E_ps 6 (pc' := 120) (l' := [some (.ref x0), some (.int x1), some (.int x5), some (.int x6), some (.int x7), some (.int x5), some (.int x6), some (.int x7), none]) (st' := []) rfl ?_
  exact E_wk (l' := [some (.ref x0), some (.int x1), some (.int x5), some (.int x6), some (.int x7), some (.int x5), none, none, none]) ⟨rfl, rfl, rfl, rfl, rfl, rfl, trivial⟩ (s52_120 k0 h hr)
noncomputable def f52_10 (x0 : Nat) (x1 : Int32) (x2 : Int32) (x3 : Int32) (x4 : Int32) (x5 : Int32) (s : xS) : Option ((Int32 × Int32 × Int32 × Int32 × xS) ⊕ (xS × Unit)) := if (3 : Int32) ≤ x5 then (Option.map Sum.inr (if x2 = (-1 : Int32) then (f52_138  s) else ((hk_R x0 3).bind fun a3 => (wI s a3 x2 x1).bind fun t5 => f52_138  t5))) else ((hk_R x0 0).bind fun a7 => (aI s a7 x1).bind fun v9 => (hk_R x0 1).bind fun a11 => (aI s a11 x1).bind fun v13 => (f53 x0 x5 v9 v13 (1 : Int32) s).bind fun z15 => if 0 < z15.2 then ((f53 x0 x5 (z15.1.1 x0 6) (z15.1.1 x0 7) (z15.1.1 x0 5) z15.1).bind fun z18 => (f284 (z18.2 * x3) (x4 * z15.2) z18.1).bind fun z20 => if x2 = (-1 : Int32) then (f52_110 x0 x1 x5 z15.2 z18.2 z20.1) else (if z20.2 < 0 then (f52_110 x0 x1 x5 z15.2 z18.2 z20.1) else (if z20.2 = 0 then ((hk_R x0 3).bind fun a25 => (aI z20.1 a25 x5).bind fun v27 => (hk_R x0 3).bind fun a29 => (aI z20.1 a29 x2).bind fun v31 => if v31 ≤ v27 then (f52_120 x0 x1 x2 x3 x4 x5 z20.1) else (f52_110 x0 x1 x5 z15.2 z18.2 z20.1)) else (f52_120 x0 x1 x2 x3 x4 x5 z20.1)))) else (f52_120 x0 x1 x2 x3 x4 x5 z15.1))
set_option maxRecDepth 20000 in
theorem s52_10 {sc : Option (Nat × (Nat → Int32))} {x0 : Nat} {x1 : Int32} {x2 : Int32} {x3 : Int32} {x4 : Int32} {x5 : Int32} {s : xS} {o : xH × Option Value} {r : ((Int32 × Int32 × Int32 × Int32 × xS) ⊕ (xS × Unit))} (k0 : oK x0 5 = true) (h : f52_10 x0 x1 x2 x3 x4 x5 s = some r) (hr : dn52_10 sc x0 x1 o r) : Ev sc 2 52 [] 10 [some (.ref x0), some (.int x1), some (.int x2), some (.int x3), some (.int x4), some (.int x5), none, none, none] [] (hk_of s) o := by
  unfold f52_10 at h
  refine E_blk rfl ?_
  refine E_ps 2 (pc' := 13) (l' := [some (.ref x0), some (.int x1), some (.int x2), some (.int x3), some (.int x4), some (.int x5), none, none, none]) (st' := [.int (3 : Int32), .int x5]) rfl ?_
  by_cases c1 : (3 : Int32) ≤ x5
  · rw [if_pos c1] at h
    refine E_jt rfl rfl c1 ?_
    obtain ⟨r, h, hr⟩ := lf_some (Dn := dn52_10 sc x0 x1 o) h hr
    refine E_blk rfl ?_
    refine E_ps 2 (pc' := 128) (l' := [some (.ref x0), some (.int x1), some (.int x2), some (.int x3), some (.int x4), some (.int x5), none, none, none]) (st' := [.int (-1 : Int32), .int x2]) rfl ?_
    by_cases c2 : x2 = (-1 : Int32)
    · rw [if_pos c2] at h
      refine E_jt rfl rfl c2 ?_
      exact E_wk (l' := [none, none, none, none, none, none, none, none, none]) trivial (s52_138  h hr)
    · rw [if_neg c2] at h
      refine E_jf rfl rfl c2 ?_
      refine E_blk rfl ?_
      refine E_ps 1 (pc' := 132) (l' := [some (.ref x0), some (.int x1), some (.int x2), some (.int x3), some (.int x4), some (.int x5), none, none, none]) (st' := [.ref x0]) rfl ?_
      obtain ⟨a3, e4, h⟩ := Option.bind_eq_some_iff.mp h
      refine E_gr k0 (by decide) rfl e4 ?_
      refine E_ps 2 (pc' := 137) (l' := [some (.ref x0), some (.int x1), some (.int x2), some (.int x3), some (.int x4), some (.int x5), none, none, none]) (st' := [.int x1, .int x2, .ref a3]) rfl ?_
      obtain ⟨t5, e6, h⟩ := Option.bind_eq_some_iff.mp h
      refine E_wi e6 ?_
      exact E_wk (l' := [none, none, none, none, none, none, none, none, none]) trivial (s52_138  h hr)
  · rw [if_neg c1] at h
    refine E_jf rfl rfl c1 ?_
    refine E_blk rfl ?_
    refine E_ps 3 (pc' := 20) (l' := [some (.ref x0), some (.int x1), some (.int x2), some (.int x3), some (.int x4), some (.int x5), none, none, none]) (st' := [.ref x0, .int x5, .ref x0]) rfl ?_
    obtain ⟨a7, e8, h⟩ := Option.bind_eq_some_iff.mp h
    refine E_gr k0 (by decide) rfl e8 ?_
    refine E_ps 1 (pc' := 24) (l' := [some (.ref x0), some (.int x1), some (.int x2), some (.int x3), some (.int x4), some (.int x5), none, none, none]) (st' := [.int x1, .ref a7, .int x5, .ref x0]) rfl ?_
    obtain ⟨v9, e10, h⟩ := Option.bind_eq_some_iff.mp h
    refine E_ai e10 ?_
    refine E_ps 1 (pc' := 26) (l' := [some (.ref x0), some (.int x1), some (.int x2), some (.int x3), some (.int x4), some (.int x5), none, none, none]) (st' := [.ref x0, .int v9, .int x5, .ref x0]) rfl ?_
    obtain ⟨a11, e12, h⟩ := Option.bind_eq_some_iff.mp h
    refine E_gr k0 (by decide) rfl e12 ?_
    refine E_ps 1 (pc' := 30) (l' := [some (.ref x0), some (.int x1), some (.int x2), some (.int x3), some (.int x4), some (.int x5), none, none, none]) (st' := [.int x1, .ref a11, .int v9, .int x5, .ref x0]) rfl ?_
    obtain ⟨v13, e14, h⟩ := Option.bind_eq_some_iff.mp h
    refine E_ai e14 ?_
    refine E_ps 1 (pc' := 32) (l' := [some (.ref x0), some (.int x1), some (.int x2), some (.int x3), some (.int x4), some (.int x5), none, none, none]) (st' := [.int (1 : Int32), .int v13, .int v9, .int x5, .ref x0]) rfl ?_
    obtain ⟨z15, e16, h⟩ := Option.bind_eq_some_iff.mp h
    refine E_callI (vs := [.ref x0, .int x5, .int v9, .int v13, .int (1 : Int32)]) (rest := []) rfl (by decide) rfl rfl (Nat.le_of_ble_eq_true rfl) (s53 e16) (by decide) ?_
    refine E_ps 2 (pc' := 39) (l' := [some (.ref x0), some (.int x1), some (.int x2), some (.int x3), some (.int x4), some (.int x5), some (.int z15.2), none, none]) (st' := [.int z15.2]) rfl ?_
    by_cases c17 : 0 < z15.2
    · rw [if_pos c17] at h
      refine E_jt rfl rfl c17 ?_
      refine E_blk rfl ?_
      refine E_ps 3 (pc' := 49) (l' := [some (.ref x0), some (.int x1), some (.int x2), some (.int x3), some (.int x4), some (.int x5), some (.int z15.2), none, none]) (st' := [.ref x0, .int x5, .ref x0]) rfl ?_
      refine E_gi k0 (by decide) rfl ?_
      refine E_ps 1 (pc' := 53) (l' := [some (.ref x0), some (.int x1), some (.int x2), some (.int x3), some (.int x4), some (.int x5), some (.int z15.2), none, none]) (st' := [.ref x0, .int (z15.1.1 x0 6), .int x5, .ref x0]) rfl ?_
      refine E_gi k0 (by decide) rfl ?_
      refine E_ps 1 (pc' := 57) (l' := [some (.ref x0), some (.int x1), some (.int x2), some (.int x3), some (.int x4), some (.int x5), some (.int z15.2), none, none]) (st' := [.ref x0, .int (z15.1.1 x0 7), .int (z15.1.1 x0 6), .int x5, .ref x0]) rfl ?_
      refine E_gi k0 (by decide) rfl ?_
      obtain ⟨z18, e19, h⟩ := Option.bind_eq_some_iff.mp h
      refine E_callI (vs := [.ref x0, .int x5, .int (z15.1.1 x0 6), .int (z15.1.1 x0 7), .int (z15.1.1 x0 5)]) (rest := []) rfl (by decide) rfl rfl (Nat.le_of_ble_eq_true rfl) (s53 e19) (by decide) ?_
      refine E_ps 7 (pc' := 74) (l' := [some (.ref x0), some (.int x1), some (.int x2), some (.int x3), some (.int x4), some (.int x5), some (.int z15.2), some (.int z18.2), none]) (st' := [.int (x4 * z15.2), .int (z18.2 * x3)]) rfl ?_
      obtain ⟨z20, e21, h⟩ := Option.bind_eq_some_iff.mp h
      refine E_callI (vs := [.int (z18.2 * x3), .int (x4 * z15.2)]) (rest := []) rfl (by decide) rfl rfl (Nat.le_of_ble_eq_true rfl) (s284 e21) (by decide) ?_
      refine E_ps 3 (pc' := 81) (l' := [some (.ref x0), some (.int x1), some (.int x2), some (.int x3), some (.int x4), some (.int x5), some (.int z15.2), some (.int z18.2), some (.int z20.2)]) (st' := [.int (-1 : Int32), .int x2]) rfl ?_
      by_cases c22 : x2 = (-1 : Int32)
      · rw [if_pos c22] at h
        refine E_jt rfl rfl c22 ?_
        exact E_wk (l' := [some (.ref x0), some (.int x1), none, none, none, some (.int x5), some (.int z15.2), some (.int z18.2), none]) ⟨rfl, rfl, rfl, rfl, rfl, trivial⟩ (s52_110 k0 h hr)
      · rw [if_neg c22] at h
        refine E_jf rfl rfl c22 ?_
        refine E_blk rfl ?_
        refine E_ps 1 (pc' := 86) (l' := [some (.ref x0), some (.int x1), some (.int x2), some (.int x3), some (.int x4), some (.int x5), some (.int z15.2), some (.int z18.2), some (.int z20.2)]) (st' := [.int z20.2]) rfl ?_
        by_cases c23 : z20.2 < 0
        · rw [if_pos c23] at h
          refine E_jt rfl rfl c23 ?_
          exact E_wk (l' := [some (.ref x0), some (.int x1), none, none, none, some (.int x5), some (.int z15.2), some (.int z18.2), none]) ⟨rfl, rfl, rfl, rfl, rfl, trivial⟩ (s52_110 k0 h hr)
        · rw [if_neg c23] at h
          refine E_jf rfl rfl c23 ?_
          refine E_blk rfl ?_
          refine E_ps 1 (pc' := 91) (l' := [some (.ref x0), some (.int x1), some (.int x2), some (.int x3), some (.int x4), some (.int x5), some (.int z15.2), some (.int z18.2), some (.int z20.2)]) (st' := [.int z20.2]) rfl ?_
          by_cases c24 : z20.2 = 0
          · rw [if_pos c24] at h
            refine E_jt rfl rfl c24 ?_
            refine E_blk rfl ?_
            refine E_ps 1 (pc' := 95) (l' := [some (.ref x0), some (.int x1), some (.int x2), some (.int x3), some (.int x4), some (.int x5), some (.int z15.2), some (.int z18.2), some (.int z20.2)]) (st' := [.ref x0]) rfl ?_
            obtain ⟨a25, e26, h⟩ := Option.bind_eq_some_iff.mp h
            refine E_gr k0 (by decide) rfl e26 ?_
            refine E_ps 1 (pc' := 100) (l' := [some (.ref x0), some (.int x1), some (.int x2), some (.int x3), some (.int x4), some (.int x5), some (.int z15.2), some (.int z18.2), some (.int z20.2)]) (st' := [.int x5, .ref a25]) rfl ?_
            obtain ⟨v27, e28, h⟩ := Option.bind_eq_some_iff.mp h
            refine E_ai e28 ?_
            refine E_ps 1 (pc' := 102) (l' := [some (.ref x0), some (.int x1), some (.int x2), some (.int x3), some (.int x4), some (.int x5), some (.int z15.2), some (.int z18.2), some (.int z20.2)]) (st' := [.ref x0, .int v27]) rfl ?_
            obtain ⟨a29, e30, h⟩ := Option.bind_eq_some_iff.mp h
            refine E_gr k0 (by decide) rfl e30 ?_
            refine E_ps 1 (pc' := 106) (l' := [some (.ref x0), some (.int x1), some (.int x2), some (.int x3), some (.int x4), some (.int x5), some (.int z15.2), some (.int z18.2), some (.int z20.2)]) (st' := [.int x2, .ref a29, .int v27]) rfl ?_
            obtain ⟨v31, e32, h⟩ := Option.bind_eq_some_iff.mp h
            refine E_ai e32 ?_
            by_cases c33 : v31 ≤ v27
            · rw [if_pos c33] at h
              refine E_jt rfl rfl c33 ?_
              exact E_wk (l' := [some (.ref x0), some (.int x1), some (.int x2), some (.int x3), some (.int x4), some (.int x5), none, none, none]) ⟨rfl, rfl, rfl, rfl, rfl, rfl, trivial⟩ (s52_120 k0 h hr)
            · rw [if_neg c33] at h
              refine E_jf rfl rfl c33 ?_
              exact E_wk (l' := [some (.ref x0), some (.int x1), none, none, none, some (.int x5), some (.int z15.2), some (.int z18.2), none]) ⟨rfl, rfl, rfl, rfl, rfl, trivial⟩ (s52_110 k0 h hr)
          · rw [if_neg c24] at h
            refine E_jf rfl rfl c24 ?_
            exact E_wk (l' := [some (.ref x0), some (.int x1), some (.int x2), some (.int x3), some (.int x4), some (.int x5), none, none, none]) ⟨rfl, rfl, rfl, rfl, rfl, rfl, trivial⟩ (s52_120 k0 h hr)
    · rw [if_neg c17] at h
      refine E_jf rfl rfl c17 ?_
      refine E_blk rfl ?_
      refine E_j rfl rfl ?_
      exact E_wk (l' := [some (.ref x0), some (.int x1), some (.int x2), some (.int x3), some (.int x4), some (.int x5), none, none, none]) ⟨rfl, rfl, rfl, rfl, rfl, rfl, trivial⟩ (s52_120 k0 h hr)
theorem s52_10_w {sc : Option (Nat × (Nat → Int32))} {x0 : Nat} {x1 : Int32} {x2 : Int32} {x3 : Int32} {x4 : Int32} {x5 : Int32} {s : xS} {o : xH × Option Value} {r : (xS × Unit)} (k0 : oK x0 5 = true) (h : whl (fun q : (Int32 × Int32 × Int32 × Int32 × xS) => f52_10 x0 x1 q.1 q.2.1 q.2.2.1 q.2.2.2.1 q.2.2.2.2) (x2, x3, x4, x5, s) = some r) (hr : dn52 o r) : Ev sc 2 52 [] 10 [some (.ref x0), some (.int x1), some (.int x2), some (.int x3), some (.int x4), some (.int x5), none, none, none] [] (hk_of s) o := by
  refine whl_snd (E := fun q : (Int32 × Int32 × Int32 × Int32 × xS) => Ev sc 2 52 [] 10 [some (.ref x0), some (.int x1), some (.int q.1), some (.int q.2.1), some (.int q.2.2.1), some (.int q.2.2.2.1), none, none, none] [] (hk_of q.2.2.2.2) o) (P := fun r => dn52 o r) (fun q r h hr => ?_) h hr
  exact s52_10 k0 h (by cases r <;> exact hr)
noncomputable def f52 (x0 : Nat) (x1 : Int32) (s : xS) : Option (xS × Unit) := ifg (oK x0 5 = true) <| whl (fun q : (Int32 × Int32 × Int32 × Int32 × xS) => f52_10 x0 x1 q.1 q.2.1 q.2.2.1 q.2.2.2.1 q.2.2.2.2) ((-1 : Int32), (0 : Int32), (0 : Int32), (0 : Int32), s)
set_option maxRecDepth 20000 in
theorem s52 {sc : Option (Nat × (Nat → Int32))} {x0 : Nat} {x1 : Int32} {s : xS} {r : xS × Unit} (h : f52 x0 x1 s = some r) : Cl sc 2 52 [.ref x0, .int x1] (hk_of s) (hk_of r.1, none) := by
  unfold f52 at h
  obtain ⟨k0, h⟩ := ifg_some h
  refine ⟨pg_md 52, [some (.ref x0), some (.int x1), none, none, none, none, none, none, none], pg_mt_md (by decide), (hk_rcv k0), rfl, ?_⟩
  generalize ho : ((hk_of r.1, none) : xH × Option Value) = o
  have hr : dn52 o r := ho.symm
  refine E_blk rfl ?_
  refine E_ps 8 (pc' := 10) (l' := [some (.ref x0), some (.int x1), some (.int (-1 : Int32)), some (.int (0 : Int32)), some (.int (0 : Int32)), some (.int (0 : Int32)), none, none, none]) (st' := []) rfl ?_
  exact E_wk (l' := [some (.ref x0), some (.int x1), some (.int (-1 : Int32)), some (.int (0 : Int32)), some (.int (0 : Int32)), some (.int (0 : Int32)), none, none, none]) ⟨rfl, rfl, rfl, rfl, rfl, rfl, trivial⟩ (s52_10_w k0 h hr)

-- 54: ThreePlates$Resting.holder(I)I
def dn54 (o : xH × Option Value) (r : xS × Int32) : Prop := o = (hk_of r.1, some (.int r.2))
def dn54_4 (sc : Option (Nat × (Nat → Int32))) (x0 : Nat) (x1 : Int32) (o : xH × Option Value) (r : ((Int32 × Int32 × xS) ⊕ (xS × Int32))) : Prop := match r with
  | .inl q => Ev sc 2 54 [] 4 [some (.ref x0), some (.int x1), some (.int q.1), some (.int q.2.1)] [] (hk_of q.2.2) o
  | .inr r => dn54 o r
noncomputable def f54_44 (x0 : Nat) (x1 : Int32) (x2 : Int32) (x3 : Int32) (s : xS) : Option ((Int32 × Int32 × xS) ⊕ (xS × Int32)) := some (Sum.inl (x2, (x3 + (1 : Int32)), s))
set_option maxRecDepth 20000 in
theorem s54_44 {sc : Option (Nat × (Nat → Int32))} {x0 : Nat} {x1 : Int32} {x2 : Int32} {x3 : Int32} {s : xS} {o : xH × Option Value} {r : ((Int32 × Int32 × xS) ⊕ (xS × Int32))} (k0 : oK x0 5 = true) (h : f54_44 x0 x1 x2 x3 s = some r) (hr : dn54_4 sc x0 x1 o r) : Ev sc 2 54 [] 44 [some (.ref x0), some (.int x1), some (.int x2), some (.int x3)] [] (hk_of s) o := by
  unfold f54_44 at h
  refine E_blk rfl ?_
  refine E_ps 1 (pc' := 47) (l' := [some (.ref x0), some (.int x1), some (.int x2), some (.int (x3 + (1 : Int32)))]) (st' := []) rfl ?_
  refine E_j rfl rfl ?_
  cases h
  exact E_wk (l' := [some (.ref x0), some (.int x1), some (.int x2), some (.int (x3 + (1 : Int32)))]) ⟨rfl, rfl, rfl, rfl, trivial⟩ hr
noncomputable def f54_4 (x0 : Nat) (x1 : Int32) (x2 : Int32) (x3 : Int32) (s : xS) : Option ((Int32 × Int32 × xS) ⊕ (xS × Int32)) := if (3 : Int32) ≤ x3 then (Option.map Sum.inr (some (s, (-1 : Int32)))) else ((f53 x0 x3 (s.1 x0 6) (s.1 x0 7) (s.1 x0 5) s).bind fun z2 => if z2.2 ≤ 0 then (f54_44 x0 x1 x2 x3 z2.1) else (if x2 = x1 then (Option.map Sum.inr ((hk_R x0 3).bind fun a6 => (aI z2.1 a6 x3).bind fun v8 => some (z2.1, v8))) else (f54_44 x0 x1 (x2 + (1 : Int32)) x3 z2.1)))
set_option maxRecDepth 20000 in
theorem s54_4 {sc : Option (Nat × (Nat → Int32))} {x0 : Nat} {x1 : Int32} {x2 : Int32} {x3 : Int32} {s : xS} {o : xH × Option Value} {r : ((Int32 × Int32 × xS) ⊕ (xS × Int32))} (k0 : oK x0 5 = true) (h : f54_4 x0 x1 x2 x3 s = some r) (hr : dn54_4 sc x0 x1 o r) : Ev sc 2 54 [] 4 [some (.ref x0), some (.int x1), some (.int x2), some (.int x3)] [] (hk_of s) o := by
  unfold f54_4 at h
  refine E_blk rfl ?_
  refine E_ps 2 (pc' := 6) (l' := [some (.ref x0), some (.int x1), some (.int x2), some (.int x3)]) (st' := [.int (3 : Int32), .int x3]) rfl ?_
  by_cases c1 : (3 : Int32) ≤ x3
  · rw [if_pos c1] at h
    refine E_jt rfl rfl c1 ?_
    obtain ⟨r, h, hr⟩ := lf_some (Dn := dn54_4 sc x0 x1 o) h hr
    refine E_blk rfl ?_
    refine E_ps 1 (pc' := 51) (l' := [some (.ref x0), some (.int x1), some (.int x2), some (.int x3)]) (st' := [.int (-1 : Int32)]) rfl ?_
    cases h
    exact E_ret rfl (pg_mt_md (by decide)) rfl hr
  · rw [if_neg c1] at h
    refine E_jf rfl rfl c1 ?_
    refine E_blk rfl ?_
    refine E_ps 3 (pc' := 12) (l' := [some (.ref x0), some (.int x1), some (.int x2), some (.int x3)]) (st' := [.ref x0, .int x3, .ref x0]) rfl ?_
    refine E_gi k0 (by decide) rfl ?_
    refine E_ps 1 (pc' := 16) (l' := [some (.ref x0), some (.int x1), some (.int x2), some (.int x3)]) (st' := [.ref x0, .int (s.1 x0 6), .int x3, .ref x0]) rfl ?_
    refine E_gi k0 (by decide) rfl ?_
    refine E_ps 1 (pc' := 20) (l' := [some (.ref x0), some (.int x1), some (.int x2), some (.int x3)]) (st' := [.ref x0, .int (s.1 x0 7), .int (s.1 x0 6), .int x3, .ref x0]) rfl ?_
    refine E_gi k0 (by decide) rfl ?_
    obtain ⟨z2, e3, h⟩ := Option.bind_eq_some_iff.mp h
    refine E_callI (vs := [.ref x0, .int x3, .int (s.1 x0 6), .int (s.1 x0 7), .int (s.1 x0 5)]) (rest := []) rfl (by decide) rfl rfl (Nat.le_of_ble_eq_true rfl) (s53 e3) (by decide) ?_
    by_cases c4 : z2.2 ≤ 0
    · rw [if_pos c4] at h
      refine E_jt rfl rfl c4 ?_
      exact E_wk (l' := [some (.ref x0), some (.int x1), some (.int x2), some (.int x3)]) ⟨rfl, rfl, rfl, rfl, trivial⟩ (s54_44 k0 h hr)
    · rw [if_neg c4] at h
      refine E_jf rfl rfl c4 ?_
      refine E_blk rfl ?_
      refine E_ps 2 (pc' := 31) (l' := [some (.ref x0), some (.int x1), some (.int x2), some (.int x3)]) (st' := [.int x1, .int x2]) rfl ?_
      by_cases c5 : x2 = x1
      · rw [if_pos c5] at h
        refine E_jt rfl rfl c5 ?_
        obtain ⟨r, h, hr⟩ := lf_some (Dn := dn54_4 sc x0 x1 o) h hr
        refine E_blk rfl ?_
        refine E_ps 1 (pc' := 35) (l' := [some (.ref x0), some (.int x1), some (.int x2), some (.int x3)]) (st' := [.ref x0]) rfl ?_
        obtain ⟨a6, e7, h⟩ := Option.bind_eq_some_iff.mp h
        refine E_gr k0 (by decide) rfl e7 ?_
        refine E_ps 1 (pc' := 39) (l' := [some (.ref x0), some (.int x1), some (.int x2), some (.int x3)]) (st' := [.int x3, .ref a6]) rfl ?_
        obtain ⟨v8, e9, h⟩ := Option.bind_eq_some_iff.mp h
        refine E_ai e9 ?_
        cases h
        exact E_ret rfl (pg_mt_md (by decide)) rfl hr
      · rw [if_neg c5] at h
        refine E_jf rfl rfl c5 ?_
        refine E_blk rfl ?_
        refine E_ps 1 (pc' := 44) (l' := [some (.ref x0), some (.int x1), some (.int (x2 + (1 : Int32))), some (.int x3)]) (st' := []) rfl ?_
        exact E_wk (l' := [some (.ref x0), some (.int x1), some (.int (x2 + (1 : Int32))), some (.int x3)]) ⟨rfl, rfl, rfl, rfl, trivial⟩ (s54_44 k0 h hr)
theorem s54_4_w {sc : Option (Nat × (Nat → Int32))} {x0 : Nat} {x1 : Int32} {x2 : Int32} {x3 : Int32} {s : xS} {o : xH × Option Value} {r : (xS × Int32)} (k0 : oK x0 5 = true) (h : whl (fun q : (Int32 × Int32 × xS) => f54_4 x0 x1 q.1 q.2.1 q.2.2) (x2, x3, s) = some r) (hr : dn54 o r) : Ev sc 2 54 [] 4 [some (.ref x0), some (.int x1), some (.int x2), some (.int x3)] [] (hk_of s) o := by
  refine whl_snd (E := fun q : (Int32 × Int32 × xS) => Ev sc 2 54 [] 4 [some (.ref x0), some (.int x1), some (.int q.1), some (.int q.2.1)] [] (hk_of q.2.2) o) (P := fun r => dn54 o r) (fun q r h hr => ?_) h hr
  exact s54_4 k0 h (by cases r <;> exact hr)
noncomputable def f54 (x0 : Nat) (x1 : Int32) (s : xS) : Option (xS × Int32) := ifg (oK x0 5 = true) <| whl (fun q : (Int32 × Int32 × xS) => f54_4 x0 x1 q.1 q.2.1 q.2.2) ((0 : Int32), (0 : Int32), s)
set_option maxRecDepth 20000 in
theorem s54 {sc : Option (Nat × (Nat → Int32))} {x0 : Nat} {x1 : Int32} {s : xS} {r : xS × Int32} (h : f54 x0 x1 s = some r) : Cl sc 2 54 [.ref x0, .int x1] (hk_of s) (hk_of r.1, some (.int r.2)) := by
  unfold f54 at h
  obtain ⟨k0, h⟩ := ifg_some h
  refine ⟨pg_md 54, [some (.ref x0), some (.int x1), none, none], pg_mt_md (by decide), (hk_rcv k0), rfl, ?_⟩
  generalize ho : ((hk_of r.1, some (Value.int r.2)) : xH × Option Value) = o
  have hr : dn54 o r := ho.symm
  refine E_blk rfl ?_
  refine E_ps 4 (pc' := 4) (l' := [some (.ref x0), some (.int x1), some (.int (0 : Int32)), some (.int (0 : Int32))]) (st' := []) rfl ?_
  exact E_wk (l' := [some (.ref x0), some (.int x1), some (.int (0 : Int32)), some (.int (0 : Int32))]) ⟨rfl, rfl, rfl, rfl, trivial⟩ (s54_4_w k0 h hr)

-- 56: ThreePlates$Resting.firstTouched()I
def dn56 (o : xH × Option Value) (r : xS × Int32) : Prop := o = (hk_of r.1, some (.int r.2))
def dn56_6 (sc : Option (Nat × (Nat → Int32))) (x0 : Nat) (o : xH × Option Value) (r : ((Int32 × Int32 × Int32 × xS) ⊕ (xS × Int32))) : Prop := match r with
  | .inl q => Ev sc 1 56 [] 6 [some (.ref x0), some (.int q.1), some (.int q.2.1), some (.int q.2.2.1)] [] (hk_of q.2.2.2) o
  | .inr r => dn56 o r
noncomputable def f56_115 (x0 : Nat) (x1 : Int32) (x2 : Int32) (x3 : Int32) (s : xS) : Option ((Int32 × Int32 × Int32 × xS) ⊕ (xS × Int32)) := some (Sum.inl (x1, x2, (x3 + (1 : Int32)), s))
set_option maxRecDepth 20000 in
theorem s56_115 {sc : Option (Nat × (Nat → Int32))} {x0 : Nat} {x1 : Int32} {x2 : Int32} {x3 : Int32} {s : xS} {o : xH × Option Value} {r : ((Int32 × Int32 × Int32 × xS) ⊕ (xS × Int32))} (k0 : oK x0 5 = true) (h : f56_115 x0 x1 x2 x3 s = some r) (hr : dn56_6 sc x0 o r) : Ev sc 1 56 [] 115 [some (.ref x0), some (.int x1), some (.int x2), some (.int x3)] [] (hk_of s) o := by
  unfold f56_115 at h
  refine E_blk rfl ?_
  refine E_ps 1 (pc' := 118) (l' := [some (.ref x0), some (.int x1), some (.int x2), some (.int (x3 + (1 : Int32)))]) (st' := []) rfl ?_
  refine E_j rfl rfl ?_
  cases h
  exact E_wk (l' := [some (.ref x0), some (.int x1), some (.int x2), some (.int (x3 + (1 : Int32)))]) ⟨rfl, rfl, rfl, rfl, trivial⟩ hr
noncomputable def f56_6 (x0 : Nat) (x1 : Int32) (x2 : Int32) (x3 : Int32) (s : xS) : Option ((Int32 × Int32 × Int32 × xS) ⊕ (xS × Int32)) := if (s.1 x0 5) ≤ x3 then (Option.map Sum.inr (some (s, (2147483647 : Int32)))) else ((hk_R x0 4).bind fun a2 => (aI s a2 x3).bind fun v4 => if v4 = 0 then (if x1 = (-1 : Int32) then (f56_115 x0 x3 x2 x3 s) else (if x2 = (-1 : Int32) then (f56_115 x0 x1 x3 x3 s) else ((hk_R x0 0).bind fun a9 => (aI s a9 x2).bind fun v11 => (hk_R x0 0).bind fun a13 => (aI s a13 x1).bind fun v15 => (hk_R x0 1).bind fun a17 => (aI s a17 x3).bind fun v19 => (hk_R x0 1).bind fun a21 => (aI s a21 x1).bind fun v23 => (hk_R x0 0).bind fun a25 => (aI s a25 x3).bind fun v27 => (hk_R x0 0).bind fun a29 => (aI s a29 x1).bind fun v31 => (hk_R x0 1).bind fun a33 => (aI s a33 x2).bind fun v35 => (hk_R x0 1).bind fun a37 => (aI s a37 x1).bind fun v39 => if ((v11 - v15) * (v19 - v23)) = ((v27 - v31) * (v35 - v39)) then (f56_115 x0 x1 x2 x3 s) else (Option.map Sum.inr (some (s, ((((x1 * (25 : Int32)) + x2) * (25 : Int32)) + x3))))))) else (f56_115 x0 x1 x2 x3 s))
set_option maxRecDepth 20000 in
theorem s56_6 {sc : Option (Nat × (Nat → Int32))} {x0 : Nat} {x1 : Int32} {x2 : Int32} {x3 : Int32} {s : xS} {o : xH × Option Value} {r : ((Int32 × Int32 × Int32 × xS) ⊕ (xS × Int32))} (k0 : oK x0 5 = true) (h : f56_6 x0 x1 x2 x3 s = some r) (hr : dn56_6 sc x0 o r) : Ev sc 1 56 [] 6 [some (.ref x0), some (.int x1), some (.int x2), some (.int x3)] [] (hk_of s) o := by
  unfold f56_6 at h
  refine E_blk rfl ?_
  refine E_ps 2 (pc' := 8) (l' := [some (.ref x0), some (.int x1), some (.int x2), some (.int x3)]) (st' := [.ref x0, .int x3]) rfl ?_
  refine E_gi k0 (by decide) rfl ?_
  by_cases c1 : (s.1 x0 5) ≤ x3
  · rw [if_pos c1] at h
    refine E_jt rfl rfl c1 ?_
    obtain ⟨r, h, hr⟩ := lf_some (Dn := dn56_6 sc x0 o) h hr
    refine E_blk rfl ?_
    refine E_ps 1 (pc' := 123) (l' := [some (.ref x0), some (.int x1), some (.int x2), some (.int x3)]) (st' := [.int (2147483647 : Int32)]) rfl ?_
    cases h
    exact E_ret rfl (pg_mt_md (by decide)) rfl hr
  · rw [if_neg c1] at h
    refine E_jf rfl rfl c1 ?_
    refine E_blk rfl ?_
    refine E_ps 1 (pc' := 15) (l' := [some (.ref x0), some (.int x1), some (.int x2), some (.int x3)]) (st' := [.ref x0]) rfl ?_
    obtain ⟨a2, e3, h⟩ := Option.bind_eq_some_iff.mp h
    refine E_gr k0 (by decide) rfl e3 ?_
    refine E_ps 1 (pc' := 19) (l' := [some (.ref x0), some (.int x1), some (.int x2), some (.int x3)]) (st' := [.int x3, .ref a2]) rfl ?_
    obtain ⟨v4, e5, h⟩ := Option.bind_eq_some_iff.mp h
    refine E_ai e5 ?_
    by_cases c6 : v4 = 0
    · rw [if_pos c6] at h
      refine E_jt rfl rfl c6 ?_
      refine E_blk rfl ?_
      refine E_ps 2 (pc' := 28) (l' := [some (.ref x0), some (.int x1), some (.int x2), some (.int x3)]) (st' := [.int (-1 : Int32), .int x1]) rfl ?_
      by_cases c7 : x1 = (-1 : Int32)
      · rw [if_pos c7] at h
        refine E_jt rfl rfl c7 ?_
        refine E_blk rfl ?_
        refine E_ps 2 (pc' := 33) (l' := [some (.ref x0), some (.int x3), some (.int x2), some (.int x3)]) (st' := []) rfl ?_
        refine E_j rfl rfl ?_
        exact E_wk (l' := [some (.ref x0), some (.int x3), some (.int x2), some (.int x3)]) ⟨rfl, rfl, rfl, rfl, trivial⟩ (s56_115 k0 h hr)
      · rw [if_neg c7] at h
        refine E_jf rfl rfl c7 ?_
        refine E_blk rfl ?_
        refine E_ps 2 (pc' := 38) (l' := [some (.ref x0), some (.int x1), some (.int x2), some (.int x3)]) (st' := [.int (-1 : Int32), .int x2]) rfl ?_
        by_cases c8 : x2 = (-1 : Int32)
        · rw [if_pos c8] at h
          refine E_jt rfl rfl c8 ?_
          refine E_blk rfl ?_
          refine E_ps 2 (pc' := 43) (l' := [some (.ref x0), some (.int x1), some (.int x3), some (.int x3)]) (st' := []) rfl ?_
          refine E_j rfl rfl ?_
          exact E_wk (l' := [some (.ref x0), some (.int x1), some (.int x3), some (.int x3)]) ⟨rfl, rfl, rfl, rfl, trivial⟩ (s56_115 k0 h hr)
        · rw [if_neg c8] at h
          refine E_jf rfl rfl c8 ?_
          refine E_blk rfl ?_
          refine E_ps 1 (pc' := 47) (l' := [some (.ref x0), some (.int x1), some (.int x2), some (.int x3)]) (st' := [.ref x0]) rfl ?_
          obtain ⟨a9, e10, h⟩ := Option.bind_eq_some_iff.mp h
          refine E_gr k0 (by decide) rfl e10 ?_
          refine E_ps 1 (pc' := 51) (l' := [some (.ref x0), some (.int x1), some (.int x2), some (.int x3)]) (st' := [.int x2, .ref a9]) rfl ?_
          obtain ⟨v11, e12, h⟩ := Option.bind_eq_some_iff.mp h
          refine E_ai e12 ?_
          refine E_ps 1 (pc' := 53) (l' := [some (.ref x0), some (.int x1), some (.int x2), some (.int x3)]) (st' := [.ref x0, .int v11]) rfl ?_
          obtain ⟨a13, e14, h⟩ := Option.bind_eq_some_iff.mp h
          refine E_gr k0 (by decide) rfl e14 ?_
          refine E_ps 1 (pc' := 57) (l' := [some (.ref x0), some (.int x1), some (.int x2), some (.int x3)]) (st' := [.int x1, .ref a13, .int v11]) rfl ?_
          obtain ⟨v15, e16, h⟩ := Option.bind_eq_some_iff.mp h
          refine E_ai e16 ?_
          refine E_ps 2 (pc' := 60) (l' := [some (.ref x0), some (.int x1), some (.int x2), some (.int x3)]) (st' := [.ref x0, .int (v11 - v15)]) rfl ?_
          obtain ⟨a17, e18, h⟩ := Option.bind_eq_some_iff.mp h
          refine E_gr k0 (by decide) rfl e18 ?_
          refine E_ps 1 (pc' := 64) (l' := [some (.ref x0), some (.int x1), some (.int x2), some (.int x3)]) (st' := [.int x3, .ref a17, .int (v11 - v15)]) rfl ?_
          obtain ⟨v19, e20, h⟩ := Option.bind_eq_some_iff.mp h
          refine E_ai e20 ?_
          refine E_ps 1 (pc' := 66) (l' := [some (.ref x0), some (.int x1), some (.int x2), some (.int x3)]) (st' := [.ref x0, .int v19, .int (v11 - v15)]) rfl ?_
          obtain ⟨a21, e22, h⟩ := Option.bind_eq_some_iff.mp h
          refine E_gr k0 (by decide) rfl e22 ?_
          refine E_ps 1 (pc' := 70) (l' := [some (.ref x0), some (.int x1), some (.int x2), some (.int x3)]) (st' := [.int x1, .ref a21, .int v19, .int (v11 - v15)]) rfl ?_
          obtain ⟨v23, e24, h⟩ := Option.bind_eq_some_iff.mp h
          refine E_ai e24 ?_
          refine E_ps 3 (pc' := 74) (l' := [some (.ref x0), some (.int x1), some (.int x2), some (.int x3)]) (st' := [.ref x0, .int ((v11 - v15) * (v19 - v23))]) rfl ?_
          obtain ⟨a25, e26, h⟩ := Option.bind_eq_some_iff.mp h
          refine E_gr k0 (by decide) rfl e26 ?_
          refine E_ps 1 (pc' := 78) (l' := [some (.ref x0), some (.int x1), some (.int x2), some (.int x3)]) (st' := [.int x3, .ref a25, .int ((v11 - v15) * (v19 - v23))]) rfl ?_
          obtain ⟨v27, e28, h⟩ := Option.bind_eq_some_iff.mp h
          refine E_ai e28 ?_
          refine E_ps 1 (pc' := 80) (l' := [some (.ref x0), some (.int x1), some (.int x2), some (.int x3)]) (st' := [.ref x0, .int v27, .int ((v11 - v15) * (v19 - v23))]) rfl ?_
          obtain ⟨a29, e30, h⟩ := Option.bind_eq_some_iff.mp h
          refine E_gr k0 (by decide) rfl e30 ?_
          refine E_ps 1 (pc' := 84) (l' := [some (.ref x0), some (.int x1), some (.int x2), some (.int x3)]) (st' := [.int x1, .ref a29, .int v27, .int ((v11 - v15) * (v19 - v23))]) rfl ?_
          obtain ⟨v31, e32, h⟩ := Option.bind_eq_some_iff.mp h
          refine E_ai e32 ?_
          refine E_ps 2 (pc' := 87) (l' := [some (.ref x0), some (.int x1), some (.int x2), some (.int x3)]) (st' := [.ref x0, .int (v27 - v31), .int ((v11 - v15) * (v19 - v23))]) rfl ?_
          obtain ⟨a33, e34, h⟩ := Option.bind_eq_some_iff.mp h
          refine E_gr k0 (by decide) rfl e34 ?_
          refine E_ps 1 (pc' := 91) (l' := [some (.ref x0), some (.int x1), some (.int x2), some (.int x3)]) (st' := [.int x2, .ref a33, .int (v27 - v31), .int ((v11 - v15) * (v19 - v23))]) rfl ?_
          obtain ⟨v35, e36, h⟩ := Option.bind_eq_some_iff.mp h
          refine E_ai e36 ?_
          refine E_ps 1 (pc' := 93) (l' := [some (.ref x0), some (.int x1), some (.int x2), some (.int x3)]) (st' := [.ref x0, .int v35, .int (v27 - v31), .int ((v11 - v15) * (v19 - v23))]) rfl ?_
          obtain ⟨a37, e38, h⟩ := Option.bind_eq_some_iff.mp h
          refine E_gr k0 (by decide) rfl e38 ?_
          refine E_ps 1 (pc' := 97) (l' := [some (.ref x0), some (.int x1), some (.int x2), some (.int x3)]) (st' := [.int x1, .ref a37, .int v35, .int (v27 - v31), .int ((v11 - v15) * (v19 - v23))]) rfl ?_
          obtain ⟨v39, e40, h⟩ := Option.bind_eq_some_iff.mp h
          refine E_ai e40 ?_
          refine E_ps 2 (pc' := 100) (l' := [some (.ref x0), some (.int x1), some (.int x2), some (.int x3)]) (st' := [.int ((v27 - v31) * (v35 - v39)), .int ((v11 - v15) * (v19 - v23))]) rfl ?_
          by_cases c41 : ((v11 - v15) * (v19 - v23)) = ((v27 - v31) * (v35 - v39))
          · rw [if_pos c41] at h
            refine E_jt rfl rfl c41 ?_
            exact E_wk (l' := [some (.ref x0), some (.int x1), some (.int x2), some (.int x3)]) ⟨rfl, rfl, rfl, rfl, trivial⟩ (s56_115 k0 h hr)
          · rw [if_neg c41] at h
            refine E_jf rfl rfl c41 ?_
            obtain ⟨r, h, hr⟩ := lf_some (Dn := dn56_6 sc x0 o) h hr
            refine E_blk rfl ?_
            refine E_ps 9 (pc' := 114) (l' := [some (.ref x0), some (.int x1), some (.int x2), some (.int x3)]) (st' := [.int ((((x1 * (25 : Int32)) + x2) * (25 : Int32)) + x3)]) rfl ?_
            cases h
            exact E_ret rfl (pg_mt_md (by decide)) rfl hr
    · rw [if_neg c6] at h
      refine E_jf rfl rfl c6 ?_
      refine E_blk rfl ?_
      refine E_j rfl rfl ?_
      exact E_wk (l' := [some (.ref x0), some (.int x1), some (.int x2), some (.int x3)]) ⟨rfl, rfl, rfl, rfl, trivial⟩ (s56_115 k0 h hr)
theorem s56_6_w {sc : Option (Nat × (Nat → Int32))} {x0 : Nat} {x1 : Int32} {x2 : Int32} {x3 : Int32} {s : xS} {o : xH × Option Value} {r : (xS × Int32)} (k0 : oK x0 5 = true) (h : whl (fun q : (Int32 × Int32 × Int32 × xS) => f56_6 x0 q.1 q.2.1 q.2.2.1 q.2.2.2) (x1, x2, x3, s) = some r) (hr : dn56 o r) : Ev sc 1 56 [] 6 [some (.ref x0), some (.int x1), some (.int x2), some (.int x3)] [] (hk_of s) o := by
  refine whl_snd (E := fun q : (Int32 × Int32 × Int32 × xS) => Ev sc 1 56 [] 6 [some (.ref x0), some (.int q.1), some (.int q.2.1), some (.int q.2.2.1)] [] (hk_of q.2.2.2) o) (P := fun r => dn56 o r) (fun q r h hr => ?_) h hr
  exact s56_6 k0 h (by cases r <;> exact hr)
noncomputable def f56 (x0 : Nat) (s : xS) : Option (xS × Int32) := ifg (oK x0 5 = true) <| whl (fun q : (Int32 × Int32 × Int32 × xS) => f56_6 x0 q.1 q.2.1 q.2.2.1 q.2.2.2) ((-1 : Int32), (-1 : Int32), (0 : Int32), s)
set_option maxRecDepth 20000 in
theorem s56 {sc : Option (Nat × (Nat → Int32))} {x0 : Nat} {s : xS} {r : xS × Int32} (h : f56 x0 s = some r) : Cl sc 1 56 [.ref x0] (hk_of s) (hk_of r.1, some (.int r.2)) := by
  unfold f56 at h
  obtain ⟨k0, h⟩ := ifg_some h
  refine ⟨pg_md 56, [some (.ref x0), none, none, none], pg_mt_md (by decide), (hk_rcv k0), rfl, ?_⟩
  generalize ho : ((hk_of r.1, some (Value.int r.2)) : xH × Option Value) = o
  have hr : dn56 o r := ho.symm
  refine E_blk rfl ?_
  refine E_ps 6 (pc' := 6) (l' := [some (.ref x0), some (.int (-1 : Int32)), some (.int (-1 : Int32)), some (.int (0 : Int32))]) (st' := []) rfl ?_
  exact E_wk (l' := [some (.ref x0), some (.int (-1 : Int32)), some (.int (-1 : Int32)), some (.int (0 : Int32))]) ⟨rfl, rfl, rfl, rfl, trivial⟩ (s56_6_w k0 h hr)

-- 55: ThreePlates$Resting.chooseAmongLike(II)V
def dn55 (o : xH × Option Value) (r : xS × Unit) : Prop := o = (hk_of r.1, none)
def dn55_48 (sc : Option (Nat × (Nat → Int32))) (x0 : Nat) (x1 : Int32) (x2 : Int32) (x6 : Int32) (o : xH × Option Value) (r : ((Int32 × Int32 × Int32 × Int32 × xS) ⊕ (xS × Unit))) : Prop := match r with
  | .inl q => Ev sc 2 55 [] 48 [some (.ref x0), some (.int x1), some (.int x2), some (.int q.1), some (.int q.2.1), some (.int q.2.2.1), some (.int x6), some (.int q.2.2.2.1), none] [] (hk_of q.2.2.2.2) o
  | .inr r => dn55 o r
def dn55_70 (sc : Option (Nat × (Nat → Int32))) (x0 : Nat) (x1 : Int32) (x2 : Int32) (x6 : Int32) (x7 : Int32) (o : xH × Option Value) (r : ((Int32 × Int32 × Int32 × Int32 × xS) ⊕ ((Int32 × Int32 × Int32 × Int32 × xS) ⊕ (xS × Unit)))) : Prop := match r with
  | .inl q => Ev sc 2 55 [] 70 [some (.ref x0), some (.int x1), some (.int x2), some (.int q.1), some (.int q.2.1), some (.int q.2.2.1), some (.int x6), some (.int x7), some (.int q.2.2.2.1)] [] (hk_of q.2.2.2.2) o
  | .inr r => dn55_48 sc x0 x1 x2 x6 o r
noncomputable def f55_120 (x0 : Nat) (x1 : Int32) (x2 : Int32) (x3 : Int32) (x4 : Int32) (x5 : Int32) (x6 : Int32) (x7 : Int32) (x8 : Int32) (s : xS) : Option ((Int32 × Int32 × Int32 × Int32 × xS) ⊕ ((Int32 × Int32 × Int32 × Int32 × xS) ⊕ (xS × Unit))) := some (Sum.inl (x3, x4, x5, (x8 + (1 : Int32)), s))
set_option maxRecDepth 20000 in
theorem s55_120 {sc : Option (Nat × (Nat → Int32))} {x0 : Nat} {x1 : Int32} {x2 : Int32} {x3 : Int32} {x4 : Int32} {x5 : Int32} {x6 : Int32} {x7 : Int32} {x8 : Int32} {s : xS} {o : xH × Option Value} {r : ((Int32 × Int32 × Int32 × Int32 × xS) ⊕ ((Int32 × Int32 × Int32 × Int32 × xS) ⊕ (xS × Unit)))} (k0 : oK x0 5 = true) (h : f55_120 x0 x1 x2 x3 x4 x5 x6 x7 x8 s = some r) (hr : dn55_70 sc x0 x1 x2 x6 x7 o r) : Ev sc 2 55 [] 120 [some (.ref x0), some (.int x1), some (.int x2), some (.int x3), some (.int x4), some (.int x5), some (.int x6), some (.int x7), some (.int x8)] [] (hk_of s) o := by
  unfold f55_120 at h
  refine E_blk rfl ?_
  refine E_ps 1 (pc' := 123) (l' := [some (.ref x0), some (.int x1), some (.int x2), some (.int x3), some (.int x4), some (.int x5), some (.int x6), some (.int x7), some (.int (x8 + (1 : Int32)))]) (st' := []) rfl ?_
  refine E_j rfl rfl ?_
  cases h
  exact E_wk (l' := [some (.ref x0), some (.int x1), some (.int x2), some (.int x3), some (.int x4), some (.int x5), some (.int x6), some (.int x7), some (.int (x8 + (1 : Int32)))]) ⟨rfl, rfl, rfl, rfl, rfl, rfl, rfl, rfl, rfl, trivial⟩ hr
noncomputable def f55_70 (x0 : Nat) (x1 : Int32) (x2 : Int32) (x3 : Int32) (x4 : Int32) (x5 : Int32) (x6 : Int32) (x7 : Int32) (x8 : Int32) (s : xS) : Option ((Int32 × Int32 × Int32 × Int32 × xS) ⊕ ((Int32 × Int32 × Int32 × Int32 × xS) ⊕ (xS × Unit))) := if (s.1 x0 5) ≤ x8 then (Option.map Sum.inr (some (Sum.inl (x3, x4, x5, (x7 + (1 : Int32)), s)))) else ((f50 x0 x1 x7 x8 s).bind fun z2 => if z2.2 = 0 then (f55_120 x0 x1 x2 x3 x4 x5 x6 x7 x8 z2.1) else ((f51 x0 z2.1).bind fun z5 => if z5.2 = (-1 : Int32) then ((f56 x0 z5.1).bind fun z8 => if x3 ≤ z8.2 then (f55_120 x0 x1 x2 x3 x4 x5 x6 x7 x8 z8.1) else ((f56 x0 z8.1).bind fun z11 => f55_120 x0 x1 x2 z11.2 x7 x8 x6 x7 x8 z11.1)) else (f55_120 x0 x1 x2 x3 x4 x5 x6 x7 x8 z5.1)))
set_option maxRecDepth 20000 in
theorem s55_70 {sc : Option (Nat × (Nat → Int32))} {x0 : Nat} {x1 : Int32} {x2 : Int32} {x3 : Int32} {x4 : Int32} {x5 : Int32} {x6 : Int32} {x7 : Int32} {x8 : Int32} {s : xS} {o : xH × Option Value} {r : ((Int32 × Int32 × Int32 × Int32 × xS) ⊕ ((Int32 × Int32 × Int32 × Int32 × xS) ⊕ (xS × Unit)))} (k0 : oK x0 5 = true) (h : f55_70 x0 x1 x2 x3 x4 x5 x6 x7 x8 s = some r) (hr : dn55_70 sc x0 x1 x2 x6 x7 o r) : Ev sc 2 55 [] 70 [some (.ref x0), some (.int x1), some (.int x2), some (.int x3), some (.int x4), some (.int x5), some (.int x6), some (.int x7), some (.int x8)] [] (hk_of s) o := by
  unfold f55_70 at h
  refine E_blk rfl ?_
  refine E_ps 2 (pc' := 73) (l' := [some (.ref x0), some (.int x1), some (.int x2), some (.int x3), some (.int x4), some (.int x5), some (.int x6), some (.int x7), some (.int x8)]) (st' := [.ref x0, .int x8]) rfl ?_
  refine E_gi k0 (by decide) rfl ?_
  by_cases c1 : (s.1 x0 5) ≤ x8
  · rw [if_pos c1] at h
    refine E_jt rfl rfl c1 ?_
    obtain ⟨r, h, hr⟩ := lf_some (Dn := dn55_70 sc x0 x1 x2 x6 x7 o) h hr
    refine E_blk rfl ?_
    refine E_ps 1 (pc' := 129) (l' := [some (.ref x0), some (.int x1), some (.int x2), some (.int x3), some (.int x4), some (.int x5), some (.int x6), some (.int (x7 + (1 : Int32))), some (.int x8)]) (st' := []) rfl ?_
    refine E_j rfl rfl ?_
    cases h
    exact E_wk (l' := [some (.ref x0), some (.int x1), some (.int x2), some (.int x3), some (.int x4), some (.int x5), some (.int x6), some (.int (x7 + (1 : Int32))), none]) ⟨rfl, rfl, rfl, rfl, rfl, rfl, rfl, rfl, trivial⟩ hr
  · rw [if_neg c1] at h
    refine E_jf rfl rfl c1 ?_
    refine E_blk rfl ?_
    refine E_ps 4 (pc' := 85) (l' := [some (.ref x0), some (.int x1), some (.int x2), some (.int x3), some (.int x4), some (.int x5), some (.int x6), some (.int x7), some (.int x8)]) (st' := [.int x8, .int x7, .int x1, .ref x0]) rfl ?_
    obtain ⟨z2, e3, h⟩ := Option.bind_eq_some_iff.mp h
    refine E_callI (vs := [.ref x0, .int x1, .int x7, .int x8]) (rest := []) rfl (by decide) rfl rfl (Nat.le_of_ble_eq_true rfl) (s50 e3) (by decide) ?_
    by_cases c4 : z2.2 = 0
    · rw [if_pos c4] at h
      refine E_jt rfl rfl c4 ?_
      exact E_wk (l' := [some (.ref x0), some (.int x1), some (.int x2), some (.int x3), some (.int x4), some (.int x5), some (.int x6), some (.int x7), some (.int x8)]) ⟨rfl, rfl, rfl, rfl, rfl, rfl, rfl, rfl, rfl, trivial⟩ (s55_120 k0 h hr)
    · rw [if_neg c4] at h
      refine E_jf rfl rfl c4 ?_
      refine E_blk rfl ?_
      refine E_ps 1 (pc' := 92) (l' := [some (.ref x0), some (.int x1), some (.int x2), some (.int x3), some (.int x4), some (.int x5), some (.int x6), some (.int x7), some (.int x8)]) (st' := [.ref x0]) rfl ?_
      obtain ⟨z5, e6, h⟩ := Option.bind_eq_some_iff.mp h
      refine E_callI (vs := [.ref x0]) (rest := []) rfl (by decide) rfl rfl (Nat.le_of_ble_eq_true rfl) (s51 e6) (by decide) ?_
      refine E_ps 1 (pc' := 96) (l' := [some (.ref x0), some (.int x1), some (.int x2), some (.int x3), some (.int x4), some (.int x5), some (.int x6), some (.int x7), some (.int x8)]) (st' := [.int (-1 : Int32), .int z5.2]) rfl ?_
      by_cases c7 : z5.2 = (-1 : Int32)
      · rw [if_pos c7] at h
        refine E_jt rfl rfl c7 ?_
        refine E_blk rfl ?_
        refine E_ps 1 (pc' := 100) (l' := [some (.ref x0), some (.int x1), some (.int x2), some (.int x3), some (.int x4), some (.int x5), some (.int x6), some (.int x7), some (.int x8)]) (st' := [.ref x0]) rfl ?_
        obtain ⟨z8, e9, h⟩ := Option.bind_eq_some_iff.mp h
        refine E_callI (vs := [.ref x0]) (rest := []) rfl (by decide) rfl rfl (Nat.le_of_ble_eq_true rfl) (s56 e9) (by decide) ?_
        refine E_ps 1 (pc' := 104) (l' := [some (.ref x0), some (.int x1), some (.int x2), some (.int x3), some (.int x4), some (.int x5), some (.int x6), some (.int x7), some (.int x8)]) (st' := [.int x3, .int z8.2]) rfl ?_
        by_cases c10 : x3 ≤ z8.2
        · rw [if_pos c10] at h
          refine E_jt rfl rfl c10 ?_
          exact E_wk (l' := [some (.ref x0), some (.int x1), some (.int x2), some (.int x3), some (.int x4), some (.int x5), some (.int x6), some (.int x7), some (.int x8)]) ⟨rfl, rfl, rfl, rfl, rfl, rfl, rfl, rfl, rfl, trivial⟩ (s55_120 k0 h hr)
        · rw [if_neg c10] at h
          refine E_jf rfl rfl c10 ?_
          refine E_blk rfl ?_
          refine E_ps 1 (pc' := 108) (l' := [some (.ref x0), some (.int x1), some (.int x2), some (.int x3), some (.int x4), some (.int x5), some (.int x6), some (.int x7), some (.int x8)]) (st' := [.ref x0]) rfl ?_
          obtain ⟨z11, e12, h⟩ := Option.bind_eq_some_iff.mp h
          refine E_callI (vs := [.ref x0]) (rest := []) rfl (by decide) rfl rfl (Nat.le_of_ble_eq_true rfl) (s56 e12) (by decide) ?_
          refine E_ps 5 (pc' := 120) (l' := [some (.ref x0), some (.int x1), some (.int x2), some (.int z11.2), some (.int x7), some (.int x8), some (.int x6), some (.int x7), some (.int x8)]) (st' := []) rfl ?_
          exact E_wk (l' := [some (.ref x0), some (.int x1), some (.int x2), some (.int z11.2), some (.int x7), some (.int x8), some (.int x6), some (.int x7), some (.int x8)]) ⟨rfl, rfl, rfl, rfl, rfl, rfl, rfl, rfl, rfl, trivial⟩ (s55_120 k0 h hr)
      · rw [if_neg c7] at h
        refine E_jf rfl rfl c7 ?_
        exact E_wk (l' := [some (.ref x0), some (.int x1), some (.int x2), some (.int x3), some (.int x4), some (.int x5), some (.int x6), some (.int x7), some (.int x8)]) ⟨rfl, rfl, rfl, rfl, rfl, rfl, rfl, rfl, rfl, trivial⟩ (s55_120 k0 h hr)
theorem s55_70_w {sc : Option (Nat × (Nat → Int32))} {x0 : Nat} {x1 : Int32} {x2 : Int32} {x3 : Int32} {x4 : Int32} {x5 : Int32} {x6 : Int32} {x7 : Int32} {x8 : Int32} {s : xS} {o : xH × Option Value} {r : ((Int32 × Int32 × Int32 × Int32 × xS) ⊕ (xS × Unit))} (k0 : oK x0 5 = true) (h : whl (fun q : (Int32 × Int32 × Int32 × Int32 × xS) => f55_70 x0 x1 x2 q.1 q.2.1 q.2.2.1 x6 x7 q.2.2.2.1 q.2.2.2.2) (x3, x4, x5, x8, s) = some r) (hr : dn55_48 sc x0 x1 x2 x6 o r) : Ev sc 2 55 [] 70 [some (.ref x0), some (.int x1), some (.int x2), some (.int x3), some (.int x4), some (.int x5), some (.int x6), some (.int x7), some (.int x8)] [] (hk_of s) o := by
  refine whl_snd (E := fun q : (Int32 × Int32 × Int32 × Int32 × xS) => Ev sc 2 55 [] 70 [some (.ref x0), some (.int x1), some (.int x2), some (.int q.1), some (.int q.2.1), some (.int q.2.2.1), some (.int x6), some (.int x7), some (.int q.2.2.2.1)] [] (hk_of q.2.2.2.2) o) (P := fun r => dn55_48 sc x0 x1 x2 x6 o r) (fun q r h hr => ?_) h hr
  exact s55_70 k0 h (by cases r <;> exact hr)
noncomputable def f55_68 (x0 : Nat) (x1 : Int32) (x2 : Int32) (x3 : Int32) (x4 : Int32) (x5 : Int32) (x6 : Int32) (x7 : Int32) (y0 : Int32) (s : xS) : Option ((Int32 × Int32 × Int32 × Int32 × xS) ⊕ (xS × Unit)) := whl (fun q : (Int32 × Int32 × Int32 × Int32 × xS) => f55_70 x0 x1 x2 q.1 q.2.1 q.2.2.1 x6 x7 q.2.2.2.1 q.2.2.2.2) (x3, x4, x5, y0, s)
set_option maxRecDepth 20000 in
theorem s55_68 {sc : Option (Nat × (Nat → Int32))} {x0 : Nat} {x1 : Int32} {x2 : Int32} {x3 : Int32} {x4 : Int32} {x5 : Int32} {x6 : Int32} {x7 : Int32} {y0 : Int32} {s : xS} {o : xH × Option Value} {r : ((Int32 × Int32 × Int32 × Int32 × xS) ⊕ (xS × Unit))} (k0 : oK x0 5 = true) (h : f55_68 x0 x1 x2 x3 x4 x5 x6 x7 y0 s = some r) (hr : dn55_48 sc x0 x1 x2 x6 o r) : Ev sc 2 55 [] 68 [some (.ref x0), some (.int x1), some (.int x2), some (.int x3), some (.int x4), some (.int x5), some (.int x6), some (.int x7), none] [.int y0] (hk_of s) o := by
  unfold f55_68 at h
  refine E_blk rfl ?_
  refine E_ps 1 (pc' := 70) (l' := [some (.ref x0), some (.int x1), some (.int x2), some (.int x3), some (.int x4), some (.int x5), some (.int x6), some (.int x7), some (.int y0)]) (st' := []) rfl ?_
  exact E_wk (l' := [some (.ref x0), some (.int x1), some (.int x2), some (.int x3), some (.int x4), some (.int x5), some (.int x6), some (.int x7), some (.int y0)]) ⟨rfl, rfl, rfl, rfl, rfl, rfl, rfl, rfl, rfl, trivial⟩ (s55_70_w k0 h hr)
noncomputable def f55_48 (x0 : Nat) (x1 : Int32) (x2 : Int32) (x3 : Int32) (x4 : Int32) (x5 : Int32) (x6 : Int32) (x7 : Int32) (s : xS) : Option ((Int32 × Int32 × Int32 × Int32 × xS) ⊕ (xS × Unit)) := if x6 < x7 then (Option.map Sum.inr ((f50 x0 x1 x4 x5 s).bind fun z2 => (f51 x0 z2.1).bind fun z4 => some (z4.1, ()))) else (if x2 = (-1 : Int32) then (f55_68 x0 x1 x2 x3 x4 x5 x6 x7 (x7 + (1 : Int32)) s) else (f55_68 x0 x1 x2 x3 x4 x5 x6 x7 (0 : Int32) s))
set_option maxRecDepth 20000 in
theorem s55_48 {sc : Option (Nat × (Nat → Int32))} {x0 : Nat} {x1 : Int32} {x2 : Int32} {x3 : Int32} {x4 : Int32} {x5 : Int32} {x6 : Int32} {x7 : Int32} {s : xS} {o : xH × Option Value} {r : ((Int32 × Int32 × Int32 × Int32 × xS) ⊕ (xS × Unit))} (k0 : oK x0 5 = true) (h : f55_48 x0 x1 x2 x3 x4 x5 x6 x7 s = some r) (hr : dn55_48 sc x0 x1 x2 x6 o r) : Ev sc 2 55 [] 48 [some (.ref x0), some (.int x1), some (.int x2), some (.int x3), some (.int x4), some (.int x5), some (.int x6), some (.int x7), none] [] (hk_of s) o := by
  unfold f55_48 at h
  refine E_blk rfl ?_
  refine E_ps 2 (pc' := 52) (l' := [some (.ref x0), some (.int x1), some (.int x2), some (.int x3), some (.int x4), some (.int x5), some (.int x6), some (.int x7), none]) (st' := [.int x6, .int x7]) rfl ?_
  by_cases c1 : x6 < x7
  · rw [if_pos c1] at h
    refine E_jt rfl rfl c1 ?_
    obtain ⟨r, h, hr⟩ := lf_some (Dn := dn55_48 sc x0 x1 x2 x6 o) h hr
    refine E_blk rfl ?_
    refine E_ps 4 (pc' := 138) (l' := [some (.ref x0), some (.int x1), some (.int x2), some (.int x3), some (.int x4), some (.int x5), some (.int x6), some (.int x7), none]) (st' := [.int x5, .int x4, .int x1, .ref x0]) rfl ?_
    obtain ⟨z2, e3, h⟩ := Option.bind_eq_some_iff.mp h
    refine E_callI (vs := [.ref x0, .int x1, .int x4, .int x5]) (rest := []) rfl (by decide) rfl rfl (Nat.le_of_ble_eq_true rfl) (s50 e3) (by decide) ?_
    refine E_ps 2 (pc' := 143) (l' := [some (.ref x0), some (.int x1), some (.int x2), some (.int x3), some (.int x4), some (.int x5), some (.int x6), some (.int x7), none]) (st' := [.ref x0]) rfl ?_
    obtain ⟨z4, e5, h⟩ := Option.bind_eq_some_iff.mp h
    refine E_callI (vs := [.ref x0]) (rest := []) rfl (by decide) rfl rfl (Nat.le_of_ble_eq_true rfl) (s51 e5) (by decide) ?_
    refine E_ps 1 (pc' := 147) (l' := [some (.ref x0), some (.int x1), some (.int x2), some (.int x3), some (.int x4), some (.int x5), some (.int x6), some (.int x7), none]) (st' := []) rfl ?_
    cases h
    exact E_ret rfl (pg_mt_md (by decide)) rfl hr
  · rw [if_neg c1] at h
    refine E_jf rfl rfl c1 ?_
    refine E_blk rfl ?_
    refine E_ps 2 (pc' := 57) (l' := [some (.ref x0), some (.int x1), some (.int x2), some (.int x3), some (.int x4), some (.int x5), some (.int x6), some (.int x7), none]) (st' := [.int (-1 : Int32), .int x2]) rfl ?_
    by_cases c6 : x2 = (-1 : Int32)
    · rw [if_pos c6] at h
      refine E_jt rfl rfl c6 ?_
      refine E_blk rfl ?_
      refine E_ps 3 (pc' := 64) (l' := [some (.ref x0), some (.int x1), some (.int x2), some (.int x3), some (.int x4), some (.int x5), some (.int x6), some (.int x7), none]) (st' := [.int (x7 + (1 : Int32))]) rfl ?_
      refine E_j rfl rfl ?_
      exact E_wk (l' := [some (.ref x0), some (.int x1), some (.int x2), some (.int x3), some (.int x4), some (.int x5), some (.int x6), some (.int x7), none]) ⟨rfl, rfl, rfl, rfl, rfl, rfl, rfl, rfl, trivial⟩ (s55_68 k0 h hr)
    · rw [if_neg c6] at h
      refine E_jf rfl rfl c6 ?_
      refine E_blk rfl ?_
      refine E_ps 1 (pc' := 68) (l' := [some (.ref x0), some (.int x1), some (.int x2), some (.int x3), some (.int x4), some (.int x5), some (.int x6), some (.int x7), none]) (st' := [.int (0 : Int32)]) rfl ?_
      exact E_wk (l' := [some (.ref x0), some (.int x1), some (.int x2), some (.int x3), some (.int x4), some (.int x5), some (.int x6), some (.int x7), none]) ⟨rfl, rfl, rfl, rfl, rfl, rfl, rfl, rfl, trivial⟩ (s55_68 k0 h hr)
theorem s55_48_w {sc : Option (Nat × (Nat → Int32))} {x0 : Nat} {x1 : Int32} {x2 : Int32} {x3 : Int32} {x4 : Int32} {x5 : Int32} {x6 : Int32} {x7 : Int32} {s : xS} {o : xH × Option Value} {r : (xS × Unit)} (k0 : oK x0 5 = true) (h : whl (fun q : (Int32 × Int32 × Int32 × Int32 × xS) => f55_48 x0 x1 x2 q.1 q.2.1 q.2.2.1 x6 q.2.2.2.1 q.2.2.2.2) (x3, x4, x5, x7, s) = some r) (hr : dn55 o r) : Ev sc 2 55 [] 48 [some (.ref x0), some (.int x1), some (.int x2), some (.int x3), some (.int x4), some (.int x5), some (.int x6), some (.int x7), none] [] (hk_of s) o := by
  refine whl_snd (E := fun q : (Int32 × Int32 × Int32 × Int32 × xS) => Ev sc 2 55 [] 48 [some (.ref x0), some (.int x1), some (.int x2), some (.int q.1), some (.int q.2.1), some (.int q.2.2.1), some (.int x6), some (.int q.2.2.2.1), none] [] (hk_of q.2.2.2.2) o) (P := fun r => dn55 o r) (fun q r h hr => ?_) h hr
  exact s55_48 k0 h (by cases r <;> exact hr)
noncomputable def f55_46 (x0 : Nat) (x1 : Int32) (x2 : Int32) (x3 : Int32) (x4 : Int32) (x5 : Int32) (x6 : Int32) (y0 : Int32) (s : xS) : Option (xS × Unit) := whl (fun q : (Int32 × Int32 × Int32 × Int32 × xS) => f55_48 x0 x1 x2 q.1 q.2.1 q.2.2.1 x6 q.2.2.2.1 q.2.2.2.2) (x3, x4, x5, y0, s)
set_option maxRecDepth 20000 in
theorem s55_46 {sc : Option (Nat × (Nat → Int32))} {x0 : Nat} {x1 : Int32} {x2 : Int32} {x3 : Int32} {x4 : Int32} {x5 : Int32} {x6 : Int32} {y0 : Int32} {s : xS} {o : xH × Option Value} {r : (xS × Unit)} (k0 : oK x0 5 = true) (h : f55_46 x0 x1 x2 x3 x4 x5 x6 y0 s = some r) (hr : dn55 o r) : Ev sc 2 55 [] 46 [some (.ref x0), some (.int x1), some (.int x2), some (.int x3), some (.int x4), some (.int x5), some (.int x6), none, none] [.int y0] (hk_of s) o := by
  unfold f55_46 at h
  refine E_blk rfl ?_
  refine E_ps 1 (pc' := 48) (l' := [some (.ref x0), some (.int x1), some (.int x2), some (.int x3), some (.int x4), some (.int x5), some (.int x6), some (.int y0), none]) (st' := []) rfl ?_
  exact E_wk (l' := [some (.ref x0), some (.int x1), some (.int x2), some (.int x3), some (.int x4), some (.int x5), some (.int x6), some (.int y0), none]) ⟨rfl, rfl, rfl, rfl, rfl, rfl, rfl, rfl, trivial⟩ (s55_48_w k0 h hr)
noncomputable def f55_34 (x0 : Nat) (x1 : Int32) (x2 : Int32) (x3 : Int32) (x4 : Int32) (x5 : Int32) (y0 : Int32) (s : xS) : Option (xS × Unit) := if x2 = (-1 : Int32) then (f55_46 x0 x1 x2 x3 x4 x5 y0 (0 : Int32) s) else (f55_46 x0 x1 x2 x3 x4 x5 y0 x2 s)
set_option maxRecDepth 20000 in
theorem s55_34 {sc : Option (Nat × (Nat → Int32))} {x0 : Nat} {x1 : Int32} {x2 : Int32} {x3 : Int32} {x4 : Int32} {x5 : Int32} {y0 : Int32} {s : xS} {o : xH × Option Value} {r : (xS × Unit)} (k0 : oK x0 5 = true) (h : f55_34 x0 x1 x2 x3 x4 x5 y0 s = some r) (hr : dn55 o r) : Ev sc 2 55 [] 34 [some (.ref x0), some (.int x1), some (.int x2), some (.int x3), some (.int x4), some (.int x5), none, none, none] [.int y0] (hk_of s) o := by
  unfold f55_34 at h
  refine E_blk rfl ?_
  refine E_ps 3 (pc' := 38) (l' := [some (.ref x0), some (.int x1), some (.int x2), some (.int x3), some (.int x4), some (.int x5), some (.int y0), none, none]) (st' := [.int (-1 : Int32), .int x2]) rfl ?_
  by_cases c1 : x2 = (-1 : Int32)
  · rw [if_pos c1] at h
    refine E_jt rfl rfl c1 ?_
    refine E_blk rfl ?_
    refine E_ps 1 (pc' := 42) (l' := [some (.ref x0), some (.int x1), some (.int x2), some (.int x3), some (.int x4), some (.int x5), some (.int y0), none, none]) (st' := [.int (0 : Int32)]) rfl ?_
    refine E_j rfl rfl ?_
    exact E_wk (l' := [some (.ref x0), some (.int x1), some (.int x2), some (.int x3), some (.int x4), some (.int x5), some (.int y0), none, none]) ⟨rfl, rfl, rfl, rfl, rfl, rfl, rfl, trivial⟩ (s55_46 k0 h hr)
  · rw [if_neg c1] at h
    refine E_jf rfl rfl c1 ?_
    refine E_blk rfl ?_
    refine E_ps 1 (pc' := 46) (l' := [some (.ref x0), some (.int x1), some (.int x2), some (.int x3), some (.int x4), some (.int x5), some (.int y0), none, none]) (st' := [.int x2]) rfl ?_
    exact E_wk (l' := [some (.ref x0), some (.int x1), some (.int x2), some (.int x3), some (.int x4), some (.int x5), some (.int y0), none, none]) ⟨rfl, rfl, rfl, rfl, rfl, rfl, rfl, trivial⟩ (s55_46 k0 h hr)
noncomputable def f55 (x0 : Nat) (x1 : Int32) (x2 : Int32) (s : xS) : Option (xS × Unit) := ifg (oK x0 5 = true) <| (hk_R x0 3).bind fun a1 => (aI s a1 (0 : Int32)).bind fun v3 => (hk_R x0 3).bind fun a5 => (aI s a5 (1 : Int32)).bind fun v7 => if x2 = (-1 : Int32) then (f55_34 x0 x1 x2 (2147483647 : Int32) v3 v7 ((s.1 x0 5) - (1 : Int32)) s) else (f55_34 x0 x1 x2 (2147483647 : Int32) v3 v7 x2 s)
set_option maxRecDepth 20000 in
theorem s55 {sc : Option (Nat × (Nat → Int32))} {x0 : Nat} {x1 : Int32} {x2 : Int32} {s : xS} {r : xS × Unit} (h : f55 x0 x1 x2 s = some r) : Cl sc 2 55 [.ref x0, .int x1, .int x2] (hk_of s) (hk_of r.1, none) := by
  unfold f55 at h
  obtain ⟨k0, h⟩ := ifg_some h
  refine ⟨pg_md 55, [some (.ref x0), some (.int x1), some (.int x2), none, none, none, none, none, none], pg_mt_md (by decide), (hk_rcv k0), rfl, ?_⟩
  generalize ho : ((hk_of r.1, none) : xH × Option Value) = o
  have hr : dn55 o r := ho.symm
  refine E_blk rfl ?_
  refine E_ps 3 (pc' := 4) (l' := [some (.ref x0), some (.int x1), some (.int x2), some (.int (2147483647 : Int32)), none, none, none, none, none]) (st' := [.ref x0]) rfl ?_
  obtain ⟨a1, e2, h⟩ := Option.bind_eq_some_iff.mp h
  refine E_gr k0 (by decide) rfl e2 ?_
  refine E_ps 1 (pc' := 8) (l' := [some (.ref x0), some (.int x1), some (.int x2), some (.int (2147483647 : Int32)), none, none, none, none, none]) (st' := [.int (0 : Int32), .ref a1]) rfl ?_
  obtain ⟨v3, e4, h⟩ := Option.bind_eq_some_iff.mp h
  refine E_ai e4 ?_
  refine E_ps 2 (pc' := 12) (l' := [some (.ref x0), some (.int x1), some (.int x2), some (.int (2147483647 : Int32)), some (.int v3), none, none, none, none]) (st' := [.ref x0]) rfl ?_
  obtain ⟨a5, e6, h⟩ := Option.bind_eq_some_iff.mp h
  refine E_gr k0 (by decide) rfl e6 ?_
  refine E_ps 1 (pc' := 16) (l' := [some (.ref x0), some (.int x1), some (.int x2), some (.int (2147483647 : Int32)), some (.int v3), none, none, none, none]) (st' := [.int (1 : Int32), .ref a5]) rfl ?_
  obtain ⟨v7, e8, h⟩ := Option.bind_eq_some_iff.mp h
  refine E_ai e8 ?_
  refine E_ps 3 (pc' := 21) (l' := [some (.ref x0), some (.int x1), some (.int x2), some (.int (2147483647 : Int32)), some (.int v3), some (.int v7), none, none, none]) (st' := [.int (-1 : Int32), .int x2]) rfl ?_
  by_cases c9 : x2 = (-1 : Int32)
  · rw [if_pos c9] at h
    refine E_jt rfl rfl c9 ?_
    refine E_blk rfl ?_
    refine E_ps 1 (pc' := 25) (l' := [some (.ref x0), some (.int x1), some (.int x2), some (.int (2147483647 : Int32)), some (.int v3), some (.int v7), none, none, none]) (st' := [.ref x0]) rfl ?_
    refine E_gi k0 (by decide) rfl ?_
    refine E_ps 2 (pc' := 30) (l' := [some (.ref x0), some (.int x1), some (.int x2), some (.int (2147483647 : Int32)), some (.int v3), some (.int v7), none, none, none]) (st' := [.int ((s.1 x0 5) - (1 : Int32))]) rfl ?_
    refine E_j rfl rfl ?_
    exact E_wk (l' := [some (.ref x0), some (.int x1), some (.int x2), some (.int (2147483647 : Int32)), some (.int v3), some (.int v7), none, none, none]) ⟨rfl, rfl, rfl, rfl, rfl, rfl, trivial⟩ (s55_34 k0 h hr)
  · rw [if_neg c9] at h
    refine E_jf rfl rfl c9 ?_
    refine E_blk rfl ?_
    refine E_ps 1 (pc' := 34) (l' := [some (.ref x0), some (.int x1), some (.int x2), some (.int (2147483647 : Int32)), some (.int v3), some (.int v7), none, none, none]) (st' := [.int x2]) rfl ?_
    exact E_wk (l' := [some (.ref x0), some (.int x1), some (.int x2), some (.int (2147483647 : Int32)), some (.int v3), some (.int v7), none, none, none]) ⟨rfl, rfl, rfl, rfl, rfl, rfl, trivial⟩ (s55_34 k0 h hr)

-- 49: ThreePlates$Resting.settle()V
def dn49 (o : xH × Option Value) (r : xS × Unit) : Prop := o = (hk_of r.1, none)
def dn49_37 (sc : Option (Nat × (Nat → Int32))) (x0 : Nat) (o : xH × Option Value) (r : ((Int32 × xS) ⊕ (xS × Unit))) : Prop := match r with
  | .inl q => Ev sc 3 49 [] 37 [some (.ref x0), some (.int q.1), none] [] (hk_of q.2) o
  | .inr r => dn49 o r
noncomputable def f49_123  (s : xS) : Option (xS × Unit) := some (s, ())
set_option maxRecDepth 20000 in
theorem s49_123 {sc : Option (Nat × (Nat → Int32))}  {s : xS} {o : xH × Option Value} {r : (xS × Unit)}  (h : f49_123  s = some r) (hr : dn49 o r) : Ev sc 3 49 [] 123 [none, none, none] [] (hk_of s) o := by
  unfold f49_123 at h
  refine E_blk rfl ?_
  cases h
  exact E_ret rfl (pg_mt_md (by decide)) rfl hr
noncomputable def f49_91 (x0 : Nat) (s : xS) : Option (xS × Unit) := (f54 x0 (0 : Int32) s).bind fun z1 => if z1.2 = (-1 : Int32) then (f49_123  z1.1) else ((f54 x0 (2 : Int32) z1.1).bind fun z4 => if z4.2 = (-1 : Int32) then ((f54 x0 (0 : Int32) z4.1).bind fun z7 => (f54 x0 (1 : Int32) z7.1).bind fun z9 => (f55 x0 z7.2 z9.2 z9.1).bind fun z11 => f49_123  z11.1) else (f49_123  z4.1))
set_option maxRecDepth 20000 in
theorem s49_91 {sc : Option (Nat × (Nat → Int32))} {x0 : Nat} {s : xS} {o : xH × Option Value} {r : (xS × Unit)} (k0 : oK x0 5 = true) (h : f49_91 x0 s = some r) (hr : dn49 o r) : Ev sc 3 49 [] 91 [some (.ref x0), none, none] [] (hk_of s) o := by
  unfold f49_91 at h
  refine E_blk rfl ?_
  refine E_ps 2 (pc' := 93) (l' := [some (.ref x0), none, none]) (st' := [.int (0 : Int32), .ref x0]) rfl ?_
  obtain ⟨z1, e2, h⟩ := Option.bind_eq_some_iff.mp h
  refine E_callI (vs := [.ref x0, .int (0 : Int32)]) (rest := []) rfl (by decide) rfl rfl (Nat.le_of_ble_eq_true rfl) (s54 e2) (by decide) ?_
  refine E_ps 1 (pc' := 97) (l' := [some (.ref x0), none, none]) (st' := [.int (-1 : Int32), .int z1.2]) rfl ?_
  by_cases c3 : z1.2 = (-1 : Int32)
  · rw [if_pos c3] at h
    refine E_jt rfl rfl c3 ?_
    exact E_wk (l' := [none, none, none]) trivial (s49_123  h hr)
  · rw [if_neg c3] at h
    refine E_jf rfl rfl c3 ?_
    refine E_blk rfl ?_
    refine E_ps 2 (pc' := 102) (l' := [some (.ref x0), none, none]) (st' := [.int (2 : Int32), .ref x0]) rfl ?_
    obtain ⟨z4, e5, h⟩ := Option.bind_eq_some_iff.mp h
    refine E_callI (vs := [.ref x0, .int (2 : Int32)]) (rest := []) rfl (by decide) rfl rfl (Nat.le_of_ble_eq_true rfl) (s54 e5) (by decide) ?_
    refine E_ps 1 (pc' := 106) (l' := [some (.ref x0), none, none]) (st' := [.int (-1 : Int32), .int z4.2]) rfl ?_
    by_cases c6 : z4.2 = (-1 : Int32)
    · rw [if_pos c6] at h
      refine E_jt rfl rfl c6 ?_
      refine E_blk rfl ?_
      refine E_ps 3 (pc' := 112) (l' := [some (.ref x0), none, none]) (st' := [.int (0 : Int32), .ref x0, .ref x0]) rfl ?_
      obtain ⟨z7, e8, h⟩ := Option.bind_eq_some_iff.mp h
      refine E_callI (vs := [.ref x0, .int (0 : Int32)]) (rest := [.ref x0]) rfl (by decide) rfl rfl (Nat.le_of_ble_eq_true rfl) (s54 e8) (by decide) ?_
      refine E_ps 2 (pc' := 117) (l' := [some (.ref x0), none, none]) (st' := [.int (1 : Int32), .ref x0, .int z7.2, .ref x0]) rfl ?_
      obtain ⟨z9, e10, h⟩ := Option.bind_eq_some_iff.mp h
      refine E_callI (vs := [.ref x0, .int (1 : Int32)]) (rest := [.int z7.2, .ref x0]) rfl (by decide) rfl rfl (Nat.le_of_ble_eq_true rfl) (s54 e10) (by decide) ?_
      obtain ⟨z11, e12, h⟩ := Option.bind_eq_some_iff.mp h
      refine E_callV (vs := [.ref x0, .int z7.2, .int z9.2]) (rest := []) rfl (by decide) rfl rfl (Nat.le_of_ble_eq_true rfl) (s55 e12) (by decide) ?_
      exact E_wk (l' := [none, none, none]) trivial (s49_123  h hr)
    · rw [if_neg c6] at h
      refine E_jf rfl rfl c6 ?_
      exact E_wk (l' := [none, none, none]) trivial (s49_123  h hr)
noncomputable def f49_37 (x0 : Nat) (x1 : Int32) (s : xS) : Option ((Int32 × xS) ⊕ (xS × Unit)) := if (2300 : Int32) ≤ x1 then (Option.map Sum.inr (f49_91 x0 s)) else ((hk_R x0 3).bind fun a2 => (aI s a2 (0 : Int32)).bind fun v4 => (hk_R x0 3).bind fun a6 => (aI s a6 (1 : Int32)).bind fun v8 => (hk_R x0 3).bind fun a10 => (aI s a10 (2 : Int32)).bind fun v12 => (f50 x0 v4 v8 v12 s).bind fun z14 => (f51 x0 z14.1).bind fun z16 => if z16.2 = (-1 : Int32) then (Option.map Sum.inr (f49_91 x0 z16.1)) else ((f52 x0 z16.2 z16.1).bind fun z19 => some (Sum.inl ((x1 + (1 : Int32)), z19.1))))
set_option maxRecDepth 20000 in
theorem s49_37 {sc : Option (Nat × (Nat → Int32))} {x0 : Nat} {x1 : Int32} {s : xS} {o : xH × Option Value} {r : ((Int32 × xS) ⊕ (xS × Unit))} (k0 : oK x0 5 = true) (h : f49_37 x0 x1 s = some r) (hr : dn49_37 sc x0 o r) : Ev sc 3 49 [] 37 [some (.ref x0), some (.int x1), none] [] (hk_of s) o := by
  unfold f49_37 at h
  refine E_blk rfl ?_
  refine E_ps 2 (pc' := 41) (l' := [some (.ref x0), some (.int x1), none]) (st' := [.int (2300 : Int32), .int x1]) rfl ?_
  by_cases c1 : (2300 : Int32) ≤ x1
  · rw [if_pos c1] at h
    refine E_jt rfl rfl c1 ?_
    obtain ⟨r, h, hr⟩ := lf_some (Dn := dn49_37 sc x0 o) h hr
    exact E_wk (l' := [some (.ref x0), none, none]) ⟨rfl, trivial⟩ (s49_91 k0 h hr)
  · rw [if_neg c1] at h
    refine E_jf rfl rfl c1 ?_
    refine E_blk rfl ?_
    refine E_ps 2 (pc' := 46) (l' := [some (.ref x0), some (.int x1), none]) (st' := [.ref x0, .ref x0]) rfl ?_
    obtain ⟨a2, e3, h⟩ := Option.bind_eq_some_iff.mp h
    refine E_gr k0 (by decide) rfl e3 ?_
    refine E_ps 1 (pc' := 50) (l' := [some (.ref x0), some (.int x1), none]) (st' := [.int (0 : Int32), .ref a2, .ref x0]) rfl ?_
    obtain ⟨v4, e5, h⟩ := Option.bind_eq_some_iff.mp h
    refine E_ai e5 ?_
    refine E_ps 1 (pc' := 52) (l' := [some (.ref x0), some (.int x1), none]) (st' := [.ref x0, .int v4, .ref x0]) rfl ?_
    obtain ⟨a6, e7, h⟩ := Option.bind_eq_some_iff.mp h
    refine E_gr k0 (by decide) rfl e7 ?_
    refine E_ps 1 (pc' := 56) (l' := [some (.ref x0), some (.int x1), none]) (st' := [.int (1 : Int32), .ref a6, .int v4, .ref x0]) rfl ?_
    obtain ⟨v8, e9, h⟩ := Option.bind_eq_some_iff.mp h
    refine E_ai e9 ?_
    refine E_ps 1 (pc' := 58) (l' := [some (.ref x0), some (.int x1), none]) (st' := [.ref x0, .int v8, .int v4, .ref x0]) rfl ?_
    obtain ⟨a10, e11, h⟩ := Option.bind_eq_some_iff.mp h
    refine E_gr k0 (by decide) rfl e11 ?_
    refine E_ps 1 (pc' := 62) (l' := [some (.ref x0), some (.int x1), none]) (st' := [.int (2 : Int32), .ref a10, .int v8, .int v4, .ref x0]) rfl ?_
    obtain ⟨v12, e13, h⟩ := Option.bind_eq_some_iff.mp h
    refine E_ai e13 ?_
    obtain ⟨z14, e15, h⟩ := Option.bind_eq_some_iff.mp h
    refine E_callI (vs := [.ref x0, .int v4, .int v8, .int v12]) (rest := []) rfl (by decide) rfl rfl (Nat.le_of_ble_eq_true rfl) (s50 e15) (by decide) ?_
    refine E_ps 2 (pc' := 68) (l' := [some (.ref x0), some (.int x1), none]) (st' := [.ref x0]) rfl ?_
    obtain ⟨z16, e17, h⟩ := Option.bind_eq_some_iff.mp h
    refine E_callI (vs := [.ref x0]) (rest := []) rfl (by decide) rfl rfl (Nat.le_of_ble_eq_true rfl) (s51 e17) (by decide) ?_
    refine E_ps 3 (pc' := 74) (l' := [some (.ref x0), some (.int x1), some (.int z16.2)]) (st' := [.int (-1 : Int32), .int z16.2]) rfl ?_
    by_cases c18 : z16.2 = (-1 : Int32)
    · rw [if_pos c18] at h
      refine E_jt rfl rfl c18 ?_
      obtain ⟨r, h, hr⟩ := lf_some (Dn := dn49_37 sc x0 o) h hr
      refine E_blk rfl ?_
      refine E_j rfl rfl ?_
      exact E_wk (l' := [some (.ref x0), none, none]) ⟨rfl, trivial⟩ (s49_91 k0 h hr)
    · rw [if_neg c18] at h
      refine E_jf rfl rfl c18 ?_
      refine E_blk rfl ?_
      refine E_ps 2 (pc' := 82) (l' := [some (.ref x0), some (.int x1), some (.int z16.2)]) (st' := [.int z16.2, .ref x0]) rfl ?_
      obtain ⟨z19, e20, h⟩ := Option.bind_eq_some_iff.mp h
      refine E_callV (vs := [.ref x0, .int z16.2]) (rest := []) rfl (by decide) rfl rfl (Nat.le_of_ble_eq_true rfl) (s52 e20) (by decide) ?_
      refine E_ps 1 (pc' := 88) (l' := [some (.ref x0), some (.int (x1 + (1 : Int32))), some (.int z16.2)]) (st' := []) rfl ?_
      refine E_j rfl rfl ?_
      cases h
      exact E_wk (l' := [some (.ref x0), some (.int (x1 + (1 : Int32))), none]) ⟨rfl, rfl, trivial⟩ hr
theorem s49_37_w {sc : Option (Nat × (Nat → Int32))} {x0 : Nat} {x1 : Int32} {s : xS} {o : xH × Option Value} {r : (xS × Unit)} (k0 : oK x0 5 = true) (h : whl (fun q : (Int32 × xS) => f49_37 x0 q.1 q.2) (x1, s) = some r) (hr : dn49 o r) : Ev sc 3 49 [] 37 [some (.ref x0), some (.int x1), none] [] (hk_of s) o := by
  refine whl_snd (E := fun q : (Int32 × xS) => Ev sc 3 49 [] 37 [some (.ref x0), some (.int q.1), none] [] (hk_of q.2) o) (P := fun r => dn49 o r) (fun q r h hr => ?_) h hr
  exact s49_37 k0 h (by cases r <;> exact hr)
noncomputable def f49 (x0 : Nat) (s : xS) : Option (xS × Unit) := ifg (oK x0 5 = true) <| if (3 : Int32) < (s.1 x0 5) then ((hk_R x0 3).bind fun a2 => (wI s a2 (0 : Int32) (0 : Int32)).bind fun t4 => (hk_R x0 3).bind fun a6 => (wI t4 a6 (1 : Int32) (1 : Int32)).bind fun t8 => (hk_R x0 3).bind fun a10 => (wI t8 a10 (2 : Int32) ((t8.1 x0 5) - (1 : Int32))).bind fun t12 => whl (fun q : (Int32 × xS) => f49_37 x0 q.1 q.2) ((0 : Int32), t12)) else (some (s, ()))
set_option maxRecDepth 20000 in
theorem s49 {sc : Option (Nat × (Nat → Int32))} {x0 : Nat} {s : xS} {r : xS × Unit} (h : f49 x0 s = some r) : Cl sc 3 49 [.ref x0] (hk_of s) (hk_of r.1, none) := by
  unfold f49 at h
  obtain ⟨k0, h⟩ := ifg_some h
  refine ⟨pg_md 49, [some (.ref x0), none, none], pg_mt_md (by decide), (hk_rcv k0), rfl, ?_⟩
  generalize ho : ((hk_of r.1, none) : xH × Option Value) = o
  have hr : dn49 o r := ho.symm
  refine E_blk rfl ?_
  refine E_ps 1 (pc' := 1) (l' := [some (.ref x0), none, none]) (st' := [.ref x0]) rfl ?_
  refine E_gi k0 (by decide) rfl ?_
  refine E_ps 1 (pc' := 5) (l' := [some (.ref x0), none, none]) (st' := [.int (3 : Int32), .int (s.1 x0 5)]) rfl ?_
  by_cases c1 : (3 : Int32) < (s.1 x0 5)
  · rw [if_pos c1] at h
    refine E_jt rfl rfl c1 ?_
    refine E_blk rfl ?_
    refine E_ps 1 (pc' := 10) (l' := [some (.ref x0), none, none]) (st' := [.ref x0]) rfl ?_
    obtain ⟨a2, e3, h⟩ := Option.bind_eq_some_iff.mp h
    refine E_gr k0 (by decide) rfl e3 ?_
    refine E_ps 2 (pc' := 15) (l' := [some (.ref x0), none, none]) (st' := [.int (0 : Int32), .int (0 : Int32), .ref a2]) rfl ?_
    obtain ⟨t4, e5, h⟩ := Option.bind_eq_some_iff.mp h
    refine E_wi e5 ?_
    refine E_ps 1 (pc' := 17) (l' := [some (.ref x0), none, none]) (st' := [.ref x0]) rfl ?_
    obtain ⟨a6, e7, h⟩ := Option.bind_eq_some_iff.mp h
    refine E_gr k0 (by decide) rfl e7 ?_
    refine E_ps 2 (pc' := 22) (l' := [some (.ref x0), none, none]) (st' := [.int (1 : Int32), .int (1 : Int32), .ref a6]) rfl ?_
    obtain ⟨t8, e9, h⟩ := Option.bind_eq_some_iff.mp h
    refine E_wi e9 ?_
    refine E_ps 1 (pc' := 24) (l' := [some (.ref x0), none, none]) (st' := [.ref x0]) rfl ?_
    obtain ⟨a10, e11, h⟩ := Option.bind_eq_some_iff.mp h
    refine E_gr k0 (by decide) rfl e11 ?_
    refine E_ps 2 (pc' := 29) (l' := [some (.ref x0), none, none]) (st' := [.ref x0, .int (2 : Int32), .ref a10]) rfl ?_
    refine E_gi k0 (by decide) rfl ?_
    refine E_ps 2 (pc' := 34) (l' := [some (.ref x0), none, none]) (st' := [.int ((t8.1 x0 5) - (1 : Int32)), .int (2 : Int32), .ref a10]) rfl ?_
    obtain ⟨t12, e13, h⟩ := Option.bind_eq_some_iff.mp h
    refine E_wi e13 ?_
    refine E_ps 2 (pc' := 37) (l' := [some (.ref x0), some (.int (0 : Int32)), none]) (st' := []) rfl ?_
    exact E_wk (l' := [some (.ref x0), some (.int (0 : Int32)), none]) ⟨rfl, rfl, trivial⟩ (s49_37_w k0 h hr)
  · rw [if_neg c1] at h
    refine E_jf rfl rfl c1 ?_
    refine E_blk rfl ?_
    cases h
    exact E_ret rfl (pg_mt_md (by decide)) rfl hr

-- 26: ThreePlates$Laying.put(LThreePlates$Bench;IIIII)V
def dn26 (o : xH × Option Value) (r : xS × Unit) : Prop := o = (hk_of r.1, none)
noncomputable def f26 (x0 : Nat) (x1 : Nat) (x2 : Int32) (x3 : Int32) (x4 : Int32) (x5 : Int32) (x6 : Int32) (s : xS) : Option (xS × Unit) := ifg (oK x0 3 = true) <| ifg (oK x1 0 = true) <| (f27 x0 x4 x5 x6 s).bind fun z1 => (hk_R x0 0).bind fun a3 => (f68 a3 z1.1).bind fun z6 => (hk_R x0 2).bind fun a8 => (f5 x1 x2 z6.2 a8 z6.1).bind fun z10 => (hk_R x0 0).bind fun a12 => (f68 a12 z10.1).bind fun z15 => (hk_R x0 3).bind fun a17 => (f5 x1 x3 z15.2 a17 z15.1).bind fun z19 => (f29 x0 z19.1).bind fun z21 => (hk_R x0 1).bind fun a23 => (f49 a23 z21.1).bind fun z26 => some (z26.1, ())
set_option maxRecDepth 20000 in
theorem s26 {sc : Option (Nat × (Nat → Int32))} {x0 : Nat} {x1 : Nat} {x2 : Int32} {x3 : Int32} {x4 : Int32} {x5 : Int32} {x6 : Int32} {s : xS} {r : xS × Unit} (h : f26 x0 x1 x2 x3 x4 x5 x6 s = some r) : Cl sc 4 26 [.ref x0, .ref x1, .int x2, .int x3, .int x4, .int x5, .int x6] (hk_of s) (hk_of r.1, none) := by
  unfold f26 at h
  obtain ⟨k0, h⟩ := ifg_some h
  obtain ⟨k1, h⟩ := ifg_some h
  refine ⟨pg_md 26, [some (.ref x0), some (.ref x1), some (.int x2), some (.int x3), some (.int x4), some (.int x5), some (.int x6)], pg_mt_md (by decide), (hk_rcv k0), rfl, ?_⟩
  generalize ho : ((hk_of r.1, none) : xH × Option Value) = o
  have hr : dn26 o r := ho.symm
  refine E_blk rfl ?_
  refine E_ps 4 (pc' := 7) (l' := [some (.ref x0), some (.ref x1), some (.int x2), some (.int x3), some (.int x4), some (.int x5), some (.int x6)]) (st' := [.int x6, .int x5, .int x4, .ref x0]) rfl ?_
  obtain ⟨z1, e2, h⟩ := Option.bind_eq_some_iff.mp h
  refine E_callV (vs := [.ref x0, .int x4, .int x5, .int x6]) (rest := []) rfl (by decide) rfl rfl (Nat.le_of_ble_eq_true rfl) (s27 e2) (by decide) ?_
  refine E_ps 3 (pc' := 13) (l' := [some (.ref x0), some (.ref x1), some (.int x2), some (.int x3), some (.int x4), some (.int x5), some (.int x6)]) (st' := [.ref x0, .int x2, .ref x1]) rfl ?_
  obtain ⟨a3, e4, h⟩ := Option.bind_eq_some_iff.mp h
  refine E_gr k0 (by decide) rfl e4 ?_
  have kf5 : oK a3 7 = true := hk_rty k0 e4 rfl (by decide)
  obtain ⟨z6, e7, h⟩ := Option.bind_eq_some_iff.mp h
  refine E_callI (vs := [.ref a3]) (rest := [.int x2, .ref x1]) rfl (by decide) rfl rfl (Nat.le_of_ble_eq_true rfl) (s68 e7) (by decide) ?_
  refine E_ps 1 (pc' := 20) (l' := [some (.ref x0), some (.ref x1), some (.int x2), some (.int x3), some (.int x4), some (.int x5), some (.int x6)]) (st' := [.ref x0, .int z6.2, .int x2, .ref x1]) rfl ?_
  obtain ⟨a8, e9, h⟩ := Option.bind_eq_some_iff.mp h
  refine E_gr k0 (by decide) rfl e9 ?_
  obtain ⟨z10, e11, h⟩ := Option.bind_eq_some_iff.mp h
  refine E_callV (vs := [.ref x1, .int x2, .int z6.2, .ref a8]) (rest := []) rfl (by decide) rfl rfl (Nat.le_of_ble_eq_true rfl) (s5 e11) (by decide) ?_
  refine E_ps 3 (pc' := 29) (l' := [some (.ref x0), some (.ref x1), some (.int x2), some (.int x3), some (.int x4), some (.int x5), some (.int x6)]) (st' := [.ref x0, .int x3, .ref x1]) rfl ?_
  obtain ⟨a12, e13, h⟩ := Option.bind_eq_some_iff.mp h
  refine E_gr k0 (by decide) rfl e13 ?_
  have kf14 : oK a12 7 = true := hk_rty k0 e13 rfl (by decide)
  obtain ⟨z15, e16, h⟩ := Option.bind_eq_some_iff.mp h
  refine E_callI (vs := [.ref a12]) (rest := [.int x3, .ref x1]) rfl (by decide) rfl rfl (Nat.le_of_ble_eq_true rfl) (s68 e16) (by decide) ?_
  refine E_ps 1 (pc' := 36) (l' := [some (.ref x0), some (.ref x1), some (.int x2), some (.int x3), some (.int x4), some (.int x5), some (.int x6)]) (st' := [.ref x0, .int z15.2, .int x3, .ref x1]) rfl ?_
  obtain ⟨a17, e18, h⟩ := Option.bind_eq_some_iff.mp h
  refine E_gr k0 (by decide) rfl e18 ?_
  obtain ⟨z19, e20, h⟩ := Option.bind_eq_some_iff.mp h
  refine E_callV (vs := [.ref x1, .int x3, .int z15.2, .ref a17]) (rest := []) rfl (by decide) rfl rfl (Nat.le_of_ble_eq_true rfl) (s5 e20) (by decide) ?_
  refine E_ps 1 (pc' := 43) (l' := [some (.ref x0), some (.ref x1), some (.int x2), some (.int x3), some (.int x4), some (.int x5), some (.int x6)]) (st' := [.ref x0]) rfl ?_
  obtain ⟨z21, e22, h⟩ := Option.bind_eq_some_iff.mp h
  refine E_callV (vs := [.ref x0]) (rest := []) rfl (by decide) rfl rfl (Nat.le_of_ble_eq_true rfl) (s29 e22) (by decide) ?_
  refine E_ps 1 (pc' := 47) (l' := [some (.ref x0), some (.ref x1), some (.int x2), some (.int x3), some (.int x4), some (.int x5), some (.int x6)]) (st' := [.ref x0]) rfl ?_
  obtain ⟨a23, e24, h⟩ := Option.bind_eq_some_iff.mp h
  refine E_gr k0 (by decide) rfl e24 ?_
  have kf25 : oK a23 5 = true := hk_rty k0 e24 rfl (by decide)
  obtain ⟨z26, e27, h⟩ := Option.bind_eq_some_iff.mp h
  refine E_callV (vs := [.ref a23]) (rest := []) rfl (by decide) rfl rfl (Nat.le_of_ble_eq_true rfl) (s49 e27) (by decide) ?_
  cases h
  exact E_ret rfl (pg_mt_md (by decide)) rfl hr

-- 30: ThreePlates$Laying.loadPlate(LThreePlates$Bench;II)V
def dn30 (o : xH × Option Value) (r : xS × Unit) : Prop := o = (hk_of r.1, none)
def dn30_10 (sc : Option (Nat × (Nat → Int32))) (x0 : Nat) (x1 : Nat) (x2 : Int32) (x3 : Int32) (o : xH × Option Value) (r : ((Int32 × xS) ⊕ (xS × Unit))) : Prop := match r with
  | .inl q => Ev sc 2 30 [] 10 [some (.ref x0), some (.ref x1), some (.int x2), some (.int x3), some (.int q.1), none] [] (hk_of q.2) o
  | .inr r => dn30 o r
noncomputable def f30_10 (x0 : Nat) (x1 : Nat) (x2 : Int32) (x3 : Int32) (x4 : Int32) (s : xS) : Option ((Int32 × xS) ⊕ (xS × Unit)) := (hk_R x0 0).bind fun a1 => (f68 a1 s).bind fun z4 => if z4.2 ≤ x4 then (Option.map Sum.inr (some (z4.1, ()))) else ((hk_R x1 0).bind fun a7 => (aI z4.1 a7 ((x2 * (25 : Int32)) + x4)).bind fun v9 => (hk_R x0 1).bind fun a11 => (hk_R x0 0).bind fun a14 => ifg (¬ (z4.1.1 a14 3) = 0) <| (hk_R x0 0).bind fun a18 => ifg (¬ (z4.1.1 a18 3) = 0) <| (f45 a11 (irm x4 (z4.1.1 a14 3)) (x4 / (z4.1.1 a18 3)) (x3 * v9) z4.1).bind fun z22 => some (Sum.inl ((x4 + (1 : Int32)), z22.1)))
set_option maxRecDepth 20000 in
theorem s30_10 {sc : Option (Nat × (Nat → Int32))} {x0 : Nat} {x1 : Nat} {x2 : Int32} {x3 : Int32} {x4 : Int32} {s : xS} {o : xH × Option Value} {r : ((Int32 × xS) ⊕ (xS × Unit))} (k0 : oK x0 3 = true) (k1 : oK x1 0 = true) (h : f30_10 x0 x1 x2 x3 x4 s = some r) (hr : dn30_10 sc x0 x1 x2 x3 o r) : Ev sc 2 30 [] 10 [some (.ref x0), some (.ref x1), some (.int x2), some (.int x3), some (.int x4), none] [] (hk_of s) o := by
  unfold f30_10 at h
  refine E_blk rfl ?_
  refine E_ps 2 (pc' := 13) (l' := [some (.ref x0), some (.ref x1), some (.int x2), some (.int x3), some (.int x4), none]) (st' := [.ref x0, .int x4]) rfl ?_
  obtain ⟨a1, e2, h⟩ := Option.bind_eq_some_iff.mp h
  refine E_gr k0 (by decide) rfl e2 ?_
  have kf3 : oK a1 7 = true := hk_rty k0 e2 rfl (by decide)
  obtain ⟨z4, e5, h⟩ := Option.bind_eq_some_iff.mp h
  refine E_callI (vs := [.ref a1]) (rest := [.int x4]) rfl (by decide) rfl rfl (Nat.le_of_ble_eq_true rfl) (s68 e5) (by decide) ?_
  by_cases c6 : z4.2 ≤ x4
  · rw [if_pos c6] at h
    refine E_jt rfl rfl c6 ?_
    obtain ⟨r, h, hr⟩ := lf_some (Dn := dn30_10 sc x0 x1 x2 x3 o) h hr
    refine E_blk rfl ?_
    cases h
    exact E_ret rfl (pg_mt_md (by decide)) rfl hr
  · rw [if_neg c6] at h
    refine E_jf rfl rfl c6 ?_
    refine E_blk rfl ?_
    refine E_ps 1 (pc' := 23) (l' := [some (.ref x0), some (.ref x1), some (.int x2), some (.int x3), some (.int x4), none]) (st' := [.ref x1]) rfl ?_
    obtain ⟨a7, e8, h⟩ := Option.bind_eq_some_iff.mp h
    refine E_gr k1 (by decide) rfl e8 ?_
    refine E_ps 5 (pc' := 33) (l' := [some (.ref x0), some (.ref x1), some (.int x2), some (.int x3), some (.int x4), none]) (st' := [.int ((x2 * (25 : Int32)) + x4), .ref a7]) rfl ?_
    obtain ⟨v9, e10, h⟩ := Option.bind_eq_some_iff.mp h
    refine E_ai e10 ?_
    refine E_ps 2 (pc' := 37) (l' := [some (.ref x0), some (.ref x1), some (.int x2), some (.int x3), some (.int x4), some (.int v9)]) (st' := [.ref x0]) rfl ?_
    obtain ⟨a11, e12, h⟩ := Option.bind_eq_some_iff.mp h
    refine E_gr k0 (by decide) rfl e12 ?_
    have kf13 : oK a11 5 = true := hk_rty k0 e12 rfl (by decide)
    refine E_ps 2 (pc' := 43) (l' := [some (.ref x0), some (.ref x1), some (.int x2), some (.int x3), some (.int x4), some (.int v9)]) (st' := [.ref x0, .int x4, .ref a11]) rfl ?_
    obtain ⟨a14, e15, h⟩ := Option.bind_eq_some_iff.mp h
    refine E_gr k0 (by decide) rfl e15 ?_
    have kf16 : oK a14 7 = true := hk_rty k0 e15 rfl (by decide)
    refine E_gi kf16 (by decide) rfl ?_
    obtain ⟨g17, h⟩ := ifg_some h
    refine E_irem g17 ?_
    refine E_ps 2 (pc' := 53) (l' := [some (.ref x0), some (.ref x1), some (.int x2), some (.int x3), some (.int x4), some (.int v9)]) (st' := [.ref x0, .int x4, .int (irm x4 (z4.1.1 a14 3)), .ref a11]) rfl ?_
    obtain ⟨a18, e19, h⟩ := Option.bind_eq_some_iff.mp h
    refine E_gr k0 (by decide) rfl e19 ?_
    have kf20 : oK a18 7 = true := hk_rty k0 e19 rfl (by decide)
    refine E_gi kf20 (by decide) rfl ?_
    obtain ⟨g21, h⟩ := ifg_some h
    refine E_idiv g21 ?_
    refine E_ps 3 (pc' := 64) (l' := [some (.ref x0), some (.ref x1), some (.int x2), some (.int x3), some (.int x4), some (.int v9)]) (st' := [.int (x3 * v9), .int (x4 / (z4.1.1 a18 3)), .int (irm x4 (z4.1.1 a14 3)), .ref a11]) rfl ?_
    obtain ⟨z22, e23, h⟩ := Option.bind_eq_some_iff.mp h
    refine E_callV (vs := [.ref a11, .int (irm x4 (z4.1.1 a14 3)), .int (x4 / (z4.1.1 a18 3)), .int (x3 * v9)]) (rest := []) rfl (by decide) rfl rfl (Nat.le_of_ble_eq_true rfl) (s45 e23) (by decide) ?_
    refine E_ps 1 (pc' := 70) (l' := [some (.ref x0), some (.ref x1), some (.int x2), some (.int x3), some (.int (x4 + (1 : Int32))), some (.int v9)]) (st' := []) rfl ?_
    refine E_j rfl rfl ?_
    cases h
    exact E_wk (l' := [some (.ref x0), some (.ref x1), some (.int x2), some (.int x3), some (.int (x4 + (1 : Int32))), none]) ⟨rfl, rfl, rfl, rfl, rfl, trivial⟩ hr
theorem s30_10_w {sc : Option (Nat × (Nat → Int32))} {x0 : Nat} {x1 : Nat} {x2 : Int32} {x3 : Int32} {x4 : Int32} {s : xS} {o : xH × Option Value} {r : (xS × Unit)} (k0 : oK x0 3 = true) (k1 : oK x1 0 = true) (h : whl (fun q : (Int32 × xS) => f30_10 x0 x1 x2 x3 q.1 q.2) (x4, s) = some r) (hr : dn30 o r) : Ev sc 2 30 [] 10 [some (.ref x0), some (.ref x1), some (.int x2), some (.int x3), some (.int x4), none] [] (hk_of s) o := by
  refine whl_snd (E := fun q : (Int32 × xS) => Ev sc 2 30 [] 10 [some (.ref x0), some (.ref x1), some (.int x2), some (.int x3), some (.int q.1), none] [] (hk_of q.2) o) (P := fun r => dn30 o r) (fun q r h hr => ?_) h hr
  exact s30_10 k0 k1 h (by cases r <;> exact hr)
noncomputable def f30 (x0 : Nat) (x1 : Nat) (x2 : Int32) (x3 : Int32) (s : xS) : Option (xS × Unit) := ifg (oK x0 3 = true) <| ifg (oK x1 0 = true) <| (hk_R x0 1).bind fun a1 => (f44 a1 s).bind fun z4 => whl (fun q : (Int32 × xS) => f30_10 x0 x1 x2 x3 q.1 q.2) ((0 : Int32), z4.1)
set_option maxRecDepth 20000 in
theorem s30 {sc : Option (Nat × (Nat → Int32))} {x0 : Nat} {x1 : Nat} {x2 : Int32} {x3 : Int32} {s : xS} {r : xS × Unit} (h : f30 x0 x1 x2 x3 s = some r) : Cl sc 2 30 [.ref x0, .ref x1, .int x2, .int x3] (hk_of s) (hk_of r.1, none) := by
  unfold f30 at h
  obtain ⟨k0, h⟩ := ifg_some h
  obtain ⟨k1, h⟩ := ifg_some h
  refine ⟨pg_md 30, [some (.ref x0), some (.ref x1), some (.int x2), some (.int x3), none, none], pg_mt_md (by decide), (hk_rcv k0), rfl, ?_⟩
  generalize ho : ((hk_of r.1, none) : xH × Option Value) = o
  have hr : dn30 o r := ho.symm
  refine E_blk rfl ?_
  refine E_ps 1 (pc' := 1) (l' := [some (.ref x0), some (.ref x1), some (.int x2), some (.int x3), none, none]) (st' := [.ref x0]) rfl ?_
  obtain ⟨a1, e2, h⟩ := Option.bind_eq_some_iff.mp h
  refine E_gr k0 (by decide) rfl e2 ?_
  have kf3 : oK a1 5 = true := hk_rty k0 e2 rfl (by decide)
  obtain ⟨z4, e5, h⟩ := Option.bind_eq_some_iff.mp h
  refine E_callV (vs := [.ref a1]) (rest := []) rfl (by decide) rfl rfl (Nat.le_of_ble_eq_true rfl) (s44 e5) (by decide) ?_
  refine E_ps 2 (pc' := 10) (l' := [some (.ref x0), some (.ref x1), some (.int x2), some (.int x3), some (.int (0 : Int32)), none]) (st' := []) rfl ?_
  exact E_wk (l' := [some (.ref x0), some (.ref x1), some (.int x2), some (.int x3), some (.int (0 : Int32)), none]) ⟨rfl, rfl, rfl, rfl, rfl, trivial⟩ (s30_10_w k0 k1 h hr)

-- 31: ThreePlates$Laying.loadAlone([I)V
def dn31 (o : xH × Option Value) (r : xS × Unit) : Prop := o = (hk_of r.1, none)
def dn31_9 (sc : Option (Nat × (Nat → Int32))) (x0 : Nat) (x1 : Nat) (o : xH × Option Value) (r : ((Int32 × xS) ⊕ (xS × Unit))) : Prop := match r with
  | .inl q => Ev sc 2 31 [] 9 [some (.ref x0), some (.ref x1), some (.int q.1)] [] (hk_of q.2) o
  | .inr r => dn31 o r
noncomputable def f31_9 (x0 : Nat) (x1 : Nat) (x2 : Int32) (s : xS) : Option ((Int32 × xS) ⊕ (xS × Unit)) := (hk_R x0 0).bind fun a1 => (f68 a1 s).bind fun z4 => if z4.2 ≤ x2 then (Option.map Sum.inr (some (z4.1, ()))) else ((hk_R x0 1).bind fun a7 => (hk_R x0 0).bind fun a10 => ifg (¬ (z4.1.1 a10 3) = 0) <| (hk_R x0 0).bind fun a14 => ifg (¬ (z4.1.1 a14 3) = 0) <| (aI z4.1 x1 x2).bind fun v18 => (f45 a7 (irm x2 (z4.1.1 a10 3)) (x2 / (z4.1.1 a14 3)) v18 z4.1).bind fun z20 => some (Sum.inl ((x2 + (1 : Int32)), z20.1)))
set_option maxRecDepth 20000 in
theorem s31_9 {sc : Option (Nat × (Nat → Int32))} {x0 : Nat} {x1 : Nat} {x2 : Int32} {s : xS} {o : xH × Option Value} {r : ((Int32 × xS) ⊕ (xS × Unit))} (k0 : oK x0 3 = true) (h : f31_9 x0 x1 x2 s = some r) (hr : dn31_9 sc x0 x1 o r) : Ev sc 2 31 [] 9 [some (.ref x0), some (.ref x1), some (.int x2)] [] (hk_of s) o := by
  unfold f31_9 at h
  refine E_blk rfl ?_
  refine E_ps 2 (pc' := 11) (l' := [some (.ref x0), some (.ref x1), some (.int x2)]) (st' := [.ref x0, .int x2]) rfl ?_
  obtain ⟨a1, e2, h⟩ := Option.bind_eq_some_iff.mp h
  refine E_gr k0 (by decide) rfl e2 ?_
  have kf3 : oK a1 7 = true := hk_rty k0 e2 rfl (by decide)
  obtain ⟨z4, e5, h⟩ := Option.bind_eq_some_iff.mp h
  refine E_callI (vs := [.ref a1]) (rest := [.int x2]) rfl (by decide) rfl rfl (Nat.le_of_ble_eq_true rfl) (s68 e5) (by decide) ?_
  by_cases c6 : z4.2 ≤ x2
  · rw [if_pos c6] at h
    refine E_jt rfl rfl c6 ?_
    obtain ⟨r, h, hr⟩ := lf_some (Dn := dn31_9 sc x0 x1 o) h hr
    refine E_blk rfl ?_
    cases h
    exact E_ret rfl (pg_mt_md (by decide)) rfl hr
  · rw [if_neg c6] at h
    refine E_jf rfl rfl c6 ?_
    refine E_blk rfl ?_
    refine E_ps 1 (pc' := 21) (l' := [some (.ref x0), some (.ref x1), some (.int x2)]) (st' := [.ref x0]) rfl ?_
    obtain ⟨a7, e8, h⟩ := Option.bind_eq_some_iff.mp h
    refine E_gr k0 (by decide) rfl e8 ?_
    have kf9 : oK a7 5 = true := hk_rty k0 e8 rfl (by decide)
    refine E_ps 2 (pc' := 26) (l' := [some (.ref x0), some (.ref x1), some (.int x2)]) (st' := [.ref x0, .int x2, .ref a7]) rfl ?_
    obtain ⟨a10, e11, h⟩ := Option.bind_eq_some_iff.mp h
    refine E_gr k0 (by decide) rfl e11 ?_
    have kf12 : oK a10 7 = true := hk_rty k0 e11 rfl (by decide)
    refine E_gi kf12 (by decide) rfl ?_
    obtain ⟨g13, h⟩ := ifg_some h
    refine E_irem g13 ?_
    refine E_ps 2 (pc' := 35) (l' := [some (.ref x0), some (.ref x1), some (.int x2)]) (st' := [.ref x0, .int x2, .int (irm x2 (z4.1.1 a10 3)), .ref a7]) rfl ?_
    obtain ⟨a14, e15, h⟩ := Option.bind_eq_some_iff.mp h
    refine E_gr k0 (by decide) rfl e15 ?_
    have kf16 : oK a14 7 = true := hk_rty k0 e15 rfl (by decide)
    refine E_gi kf16 (by decide) rfl ?_
    obtain ⟨g17, h⟩ := ifg_some h
    refine E_idiv g17 ?_
    refine E_ps 2 (pc' := 44) (l' := [some (.ref x0), some (.ref x1), some (.int x2)]) (st' := [.int x2, .ref x1, .int (x2 / (z4.1.1 a14 3)), .int (irm x2 (z4.1.1 a10 3)), .ref a7]) rfl ?_
    obtain ⟨v18, e19, h⟩ := Option.bind_eq_some_iff.mp h
    refine E_ai e19 ?_
    obtain ⟨z20, e21, h⟩ := Option.bind_eq_some_iff.mp h
    refine E_callV (vs := [.ref a7, .int (irm x2 (z4.1.1 a10 3)), .int (x2 / (z4.1.1 a14 3)), .int v18]) (rest := []) rfl (by decide) rfl rfl (Nat.le_of_ble_eq_true rfl) (s45 e21) (by decide) ?_
    refine E_ps 1 (pc' := 51) (l' := [some (.ref x0), some (.ref x1), some (.int (x2 + (1 : Int32)))]) (st' := []) rfl ?_
    refine E_j rfl rfl ?_
    cases h
    exact E_wk (l' := [some (.ref x0), some (.ref x1), some (.int (x2 + (1 : Int32)))]) ⟨rfl, rfl, rfl, trivial⟩ hr
theorem s31_9_w {sc : Option (Nat × (Nat → Int32))} {x0 : Nat} {x1 : Nat} {x2 : Int32} {s : xS} {o : xH × Option Value} {r : (xS × Unit)} (k0 : oK x0 3 = true) (h : whl (fun q : (Int32 × xS) => f31_9 x0 x1 q.1 q.2) (x2, s) = some r) (hr : dn31 o r) : Ev sc 2 31 [] 9 [some (.ref x0), some (.ref x1), some (.int x2)] [] (hk_of s) o := by
  refine whl_snd (E := fun q : (Int32 × xS) => Ev sc 2 31 [] 9 [some (.ref x0), some (.ref x1), some (.int q.1)] [] (hk_of q.2) o) (P := fun r => dn31 o r) (fun q r h hr => ?_) h hr
  exact s31_9 k0 h (by cases r <;> exact hr)
noncomputable def f31 (x0 : Nat) (x1 : Nat) (s : xS) : Option (xS × Unit) := ifg (oK x0 3 = true) <| (hk_R x0 1).bind fun a1 => (f44 a1 s).bind fun z4 => whl (fun q : (Int32 × xS) => f31_9 x0 x1 q.1 q.2) ((0 : Int32), z4.1)
set_option maxRecDepth 20000 in
theorem s31 {sc : Option (Nat × (Nat → Int32))} {x0 : Nat} {x1 : Nat} {s : xS} {r : xS × Unit} (h : f31 x0 x1 s = some r) : Cl sc 2 31 [.ref x0, .ref x1] (hk_of s) (hk_of r.1, none) := by
  unfold f31 at h
  obtain ⟨k0, h⟩ := ifg_some h
  refine ⟨pg_md 31, [some (.ref x0), some (.ref x1), none], pg_mt_md (by decide), (hk_rcv k0), rfl, ?_⟩
  generalize ho : ((hk_of r.1, none) : xH × Option Value) = o
  have hr : dn31 o r := ho.symm
  refine E_blk rfl ?_
  refine E_ps 1 (pc' := 1) (l' := [some (.ref x0), some (.ref x1), none]) (st' := [.ref x0]) rfl ?_
  obtain ⟨a1, e2, h⟩ := Option.bind_eq_some_iff.mp h
  refine E_gr k0 (by decide) rfl e2 ?_
  have kf3 : oK a1 5 = true := hk_rty k0 e2 rfl (by decide)
  obtain ⟨z4, e5, h⟩ := Option.bind_eq_some_iff.mp h
  refine E_callV (vs := [.ref a1]) (rest := []) rfl (by decide) rfl rfl (Nat.le_of_ble_eq_true rfl) (s44 e5) (by decide) ?_
  refine E_ps 2 (pc' := 9) (l' := [some (.ref x0), some (.ref x1), some (.int (0 : Int32))]) (st' := []) rfl ?_
  exact E_wk (l' := [some (.ref x0), some (.ref x1), some (.int (0 : Int32))]) ⟨rfl, rfl, rfl, trivial⟩ (s31_9_w k0 h hr)

-- 32: ThreePlates$Laying.loadEdge(LThreePlates$Bench;IZI)V
def dn32 (o : xH × Option Value) (r : xS × Unit) : Prop := o = (hk_of r.1, none)
def dn32_10 (sc : Option (Nat × (Nat → Int32))) (x0 : Nat) (x1 : Nat) (x2 : Int32) (x3 : Int32) (x4 : Int32) (o : xH × Option Value) (r : ((Int32 × xS) ⊕ (xS × Unit))) : Prop := match r with
  | .inl q => Ev sc 2 32 [] 10 [some (.ref x0), some (.ref x1), some (.int x2), some (.int x3), some (.int x4), some (.int q.1), none] [] (hk_of q.2) o
  | .inr r => dn32 o r
noncomputable def f32_55 (x0 : Nat) (x1 : Nat) (x2 : Int32) (x3 : Int32) (x4 : Int32) (x5 : Int32) (y0 : Int32) (s : xS) : Option ((Int32 × xS) ⊕ (xS × Unit)) := (hk_R x0 1).bind fun a1 => (hk_R x1 0).bind fun a4 => (aI s a4 ((x2 * (25 : Int32)) + y0)).bind fun v6 => (f45 a1 x5 (0 : Int32) v6 s).bind fun z8 => some (Sum.inl ((x5 + (1 : Int32)), z8.1))
set_option maxRecDepth 20000 in
theorem s32_55 {sc : Option (Nat × (Nat → Int32))} {x0 : Nat} {x1 : Nat} {x2 : Int32} {x3 : Int32} {x4 : Int32} {x5 : Int32} {y0 : Int32} {s : xS} {o : xH × Option Value} {r : ((Int32 × xS) ⊕ (xS × Unit))} (k0 : oK x0 3 = true) (k1 : oK x1 0 = true) (h : f32_55 x0 x1 x2 x3 x4 x5 y0 s = some r) (hr : dn32_10 sc x0 x1 x2 x3 x4 o r) : Ev sc 2 32 [] 55 [some (.ref x0), some (.ref x1), some (.int x2), some (.int x3), some (.int x4), some (.int x5), none] [.int y0] (hk_of s) o := by
  unfold f32_55 at h
  refine E_blk rfl ?_
  refine E_ps 2 (pc' := 58) (l' := [some (.ref x0), some (.ref x1), some (.int x2), some (.int x3), some (.int x4), some (.int x5), some (.int y0)]) (st' := [.ref x0]) rfl ?_
  obtain ⟨a1, e2, h⟩ := Option.bind_eq_some_iff.mp h
  refine E_gr k0 (by decide) rfl e2 ?_
  have kf3 : oK a1 5 = true := hk_rty k0 e2 rfl (by decide)
  refine E_ps 3 (pc' := 65) (l' := [some (.ref x0), some (.ref x1), some (.int x2), some (.int x3), some (.int x4), some (.int x5), some (.int y0)]) (st' := [.ref x1, .int (0 : Int32), .int x5, .ref a1]) rfl ?_
  obtain ⟨a4, e5, h⟩ := Option.bind_eq_some_iff.mp h
  refine E_gr k1 (by decide) rfl e5 ?_
  refine E_ps 5 (pc' := 75) (l' := [some (.ref x0), some (.ref x1), some (.int x2), some (.int x3), some (.int x4), some (.int x5), some (.int y0)]) (st' := [.int ((x2 * (25 : Int32)) + y0), .ref a4, .int (0 : Int32), .int x5, .ref a1]) rfl ?_
  obtain ⟨v6, e7, h⟩ := Option.bind_eq_some_iff.mp h
  refine E_ai e7 ?_
  obtain ⟨z8, e9, h⟩ := Option.bind_eq_some_iff.mp h
  refine E_callV (vs := [.ref a1, .int x5, .int (0 : Int32), .int v6]) (rest := []) rfl (by decide) rfl rfl (Nat.le_of_ble_eq_true rfl) (s45 e9) (by decide) ?_
  refine E_ps 1 (pc' := 82) (l' := [some (.ref x0), some (.ref x1), some (.int x2), some (.int x3), some (.int x4), some (.int (x5 + (1 : Int32))), some (.int y0)]) (st' := []) rfl ?_
  refine E_j rfl rfl ?_
  cases h
  exact E_wk (l' := [some (.ref x0), some (.ref x1), some (.int x2), some (.int x3), some (.int x4), some (.int (x5 + (1 : Int32))), none]) ⟨rfl, rfl, rfl, rfl, rfl, rfl, trivial⟩ hr
noncomputable def f32_10 (x0 : Nat) (x1 : Nat) (x2 : Int32) (x3 : Int32) (x4 : Int32) (x5 : Int32) (s : xS) : Option ((Int32 × xS) ⊕ (xS × Unit)) := (hk_R x0 0).bind fun a1 => if (s.1 a1 3) ≤ x5 then (Option.map Sum.inr (some (s, ()))) else (if x3 = 0 then ((hk_R x0 0).bind fun a6 => f32_55 x0 x1 x2 x3 x4 x5 (((s.1 a6 3) * x5) + x4) s) else ((hk_R x0 0).bind fun a9 => f32_55 x0 x1 x2 x3 x4 x5 (((s.1 a9 3) * x4) + x5) s))
set_option maxRecDepth 20000 in
theorem s32_10 {sc : Option (Nat × (Nat → Int32))} {x0 : Nat} {x1 : Nat} {x2 : Int32} {x3 : Int32} {x4 : Int32} {x5 : Int32} {s : xS} {o : xH × Option Value} {r : ((Int32 × xS) ⊕ (xS × Unit))} (k0 : oK x0 3 = true) (k1 : oK x1 0 = true) (h : f32_10 x0 x1 x2 x3 x4 x5 s = some r) (hr : dn32_10 sc x0 x1 x2 x3 x4 o r) : Ev sc 2 32 [] 10 [some (.ref x0), some (.ref x1), some (.int x2), some (.int x3), some (.int x4), some (.int x5), none] [] (hk_of s) o := by
  unfold f32_10 at h
  refine E_blk rfl ?_
  refine E_ps 2 (pc' := 13) (l' := [some (.ref x0), some (.ref x1), some (.int x2), some (.int x3), some (.int x4), some (.int x5), none]) (st' := [.ref x0, .int x5]) rfl ?_
  obtain ⟨a1, e2, h⟩ := Option.bind_eq_some_iff.mp h
  refine E_gr k0 (by decide) rfl e2 ?_
  have kf3 : oK a1 7 = true := hk_rty k0 e2 rfl (by decide)
  refine E_gi kf3 (by decide) rfl ?_
  by_cases c4 : (s.1 a1 3) ≤ x5
  · rw [if_pos c4] at h
    refine E_jt rfl rfl c4 ?_
    obtain ⟨r, h, hr⟩ := lf_some (Dn := dn32_10 sc x0 x1 x2 x3 x4 o) h hr
    refine E_blk rfl ?_
    cases h
    exact E_ret rfl (pg_mt_md (by decide)) rfl hr
  · rw [if_neg c4] at h
    refine E_jf rfl rfl c4 ?_
    refine E_blk rfl ?_
    refine E_ps 1 (pc' := 23) (l' := [some (.ref x0), some (.ref x1), some (.int x2), some (.int x3), some (.int x4), some (.int x5), none]) (st' := [.int x3]) rfl ?_
    by_cases c5 : x3 = 0
    · rw [if_pos c5] at h
      refine E_jt rfl rfl c5 ?_
      refine E_blk rfl ?_
      refine E_ps 1 (pc' := 43) (l' := [some (.ref x0), some (.ref x1), some (.int x2), some (.int x3), some (.int x4), some (.int x5), none]) (st' := [.ref x0]) rfl ?_
      obtain ⟨a6, e7, h⟩ := Option.bind_eq_some_iff.mp h
      refine E_gr k0 (by decide) rfl e7 ?_
      have kf8 : oK a6 7 = true := hk_rty k0 e7 rfl (by decide)
      refine E_gi kf8 (by decide) rfl ?_
      refine E_ps 4 (pc' := 55) (l' := [some (.ref x0), some (.ref x1), some (.int x2), some (.int x3), some (.int x4), some (.int x5), none]) (st' := [.int (((s.1 a6 3) * x5) + x4)]) rfl ?_
      exact E_wk (l' := [some (.ref x0), some (.ref x1), some (.int x2), some (.int x3), some (.int x4), some (.int x5), none]) ⟨rfl, rfl, rfl, rfl, rfl, rfl, trivial⟩ (s32_55 k0 k1 h hr)
    · rw [if_neg c5] at h
      refine E_jf rfl rfl c5 ?_
      refine E_blk rfl ?_
      refine E_ps 1 (pc' := 27) (l' := [some (.ref x0), some (.ref x1), some (.int x2), some (.int x3), some (.int x4), some (.int x5), none]) (st' := [.ref x0]) rfl ?_
      obtain ⟨a9, e10, h⟩ := Option.bind_eq_some_iff.mp h
      refine E_gr k0 (by decide) rfl e10 ?_
      have kf11 : oK a9 7 = true := hk_rty k0 e10 rfl (by decide)
      refine E_gi kf11 (by decide) rfl ?_
      refine E_ps 4 (pc' := 39) (l' := [some (.ref x0), some (.ref x1), some (.int x2), some (.int x3), some (.int x4), some (.int x5), none]) (st' := [.int (((s.1 a9 3) * x4) + x5)]) rfl ?_
      refine E_j rfl rfl ?_
      exact E_wk (l' := [some (.ref x0), some (.ref x1), some (.int x2), some (.int x3), some (.int x4), some (.int x5), none]) ⟨rfl, rfl, rfl, rfl, rfl, rfl, trivial⟩ (s32_55 k0 k1 h hr)
theorem s32_10_w {sc : Option (Nat × (Nat → Int32))} {x0 : Nat} {x1 : Nat} {x2 : Int32} {x3 : Int32} {x4 : Int32} {x5 : Int32} {s : xS} {o : xH × Option Value} {r : (xS × Unit)} (k0 : oK x0 3 = true) (k1 : oK x1 0 = true) (h : whl (fun q : (Int32 × xS) => f32_10 x0 x1 x2 x3 x4 q.1 q.2) (x5, s) = some r) (hr : dn32 o r) : Ev sc 2 32 [] 10 [some (.ref x0), some (.ref x1), some (.int x2), some (.int x3), some (.int x4), some (.int x5), none] [] (hk_of s) o := by
  refine whl_snd (E := fun q : (Int32 × xS) => Ev sc 2 32 [] 10 [some (.ref x0), some (.ref x1), some (.int x2), some (.int x3), some (.int x4), some (.int q.1), none] [] (hk_of q.2) o) (P := fun r => dn32 o r) (fun q r h hr => ?_) h hr
  exact s32_10 k0 k1 h (by cases r <;> exact hr)
noncomputable def f32 (x0 : Nat) (x1 : Nat) (x2 : Int32) (x3 : Int32) (x4 : Int32) (s : xS) : Option (xS × Unit) := ifg (oK x0 3 = true) <| ifg (oK x1 0 = true) <| (hk_R x0 1).bind fun a1 => (f44 a1 s).bind fun z4 => whl (fun q : (Int32 × xS) => f32_10 x0 x1 x2 x3 x4 q.1 q.2) ((0 : Int32), z4.1)
set_option maxRecDepth 20000 in
theorem s32 {sc : Option (Nat × (Nat → Int32))} {x0 : Nat} {x1 : Nat} {x2 : Int32} {x3 : Int32} {x4 : Int32} {s : xS} {r : xS × Unit} (h : f32 x0 x1 x2 x3 x4 s = some r) : Cl sc 2 32 [.ref x0, .ref x1, .int x2, .int x3, .int x4] (hk_of s) (hk_of r.1, none) := by
  unfold f32 at h
  obtain ⟨k0, h⟩ := ifg_some h
  obtain ⟨k1, h⟩ := ifg_some h
  refine ⟨pg_md 32, [some (.ref x0), some (.ref x1), some (.int x2), some (.int x3), some (.int x4), none, none], pg_mt_md (by decide), (hk_rcv k0), rfl, ?_⟩
  generalize ho : ((hk_of r.1, none) : xH × Option Value) = o
  have hr : dn32 o r := ho.symm
  refine E_blk rfl ?_
  refine E_ps 1 (pc' := 1) (l' := [some (.ref x0), some (.ref x1), some (.int x2), some (.int x3), some (.int x4), none, none]) (st' := [.ref x0]) rfl ?_
  obtain ⟨a1, e2, h⟩ := Option.bind_eq_some_iff.mp h
  refine E_gr k0 (by decide) rfl e2 ?_
  have kf3 : oK a1 5 = true := hk_rty k0 e2 rfl (by decide)
  obtain ⟨z4, e5, h⟩ := Option.bind_eq_some_iff.mp h
  refine E_callV (vs := [.ref a1]) (rest := []) rfl (by decide) rfl rfl (Nat.le_of_ble_eq_true rfl) (s44 e5) (by decide) ?_
  refine E_ps 2 (pc' := 10) (l' := [some (.ref x0), some (.ref x1), some (.int x2), some (.int x3), some (.int x4), some (.int (0 : Int32)), none]) (st' := []) rfl ?_
  exact E_wk (l' := [some (.ref x0), some (.ref x1), some (.int x2), some (.int x3), some (.int x4), some (.int (0 : Int32)), none]) ⟨rfl, rfl, rfl, rfl, rfl, rfl, trivial⟩ (s32_10_w k0 k1 h hr)
