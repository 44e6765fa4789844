/-! worlds, world, known, ask: both sides -/
section WB
variable {s : xS} {b n pl : Nat} {red slip : Int} {x : sS} {W S : Nat → Int} {st : Int32} {rc : Nat} {Rs : Nat → Rn} {m : Nat} {G : Nat → Sg}
/-- what the worlds keep -/
def WlI (s : xS) (n pl : Nat) (red : Int) (H W S : Nat → Int) (m : Nat) (G : Nat → Sg) : Prop := FtI s n red H W S m G ∧ OfI s n red H W S m G ∧ AkI s n pl red H W S m G
def FWU (id k : Nat) : Bool := Fz id k || FWc id k
theorem Fz_WU (id k : Nat) (h : Fz id k = true) : FWU id k = true := by unfold FWU; rw [h]; rfl
theorem FWc_WU (id k : Nat) (h : FWc id k = true) : FWU id k = true := by unfold FWU; rw [h, Bool.or_true]
theorem FtI.fr {F : Nat → Nat → Bool} {s' : xS} {H : Nat → Int} (h : FtI s n red H W S m G) (hf : fr F s s') (h1 : F 72 10 = false ∧ F 72 11 = false) (h2 : ∀ k, F 78 k = false) : FtI s' n red H W S m G := by
  rcases h with h | ⟨h, h'⟩
  · exact Or.inl (by rw [hf.i _ _ h1.2]; exact h)
  · exact Or.inr ⟨by rw [hf.i _ _ h1.2]; exact h, h'.fr hf h1.1 h2⟩
theorem OfI.fr {F : Nat → Nat → Bool} {s' : xS} {H : Nat → Int} (h : OfI s n red H W S m G) (hf : fr F s s') (h1 : F 72 16 = false) (h2 : ∀ k, F 81 k = false) : OfI s' n red H W S m G := by
  rcases h with h | ⟨h, h', h''⟩
  · exact Or.inl (by rw [hf.i _ _ h1]; exact h)
  · exact Or.inr ⟨by rw [hf.i _ _ h1]; exact h, h'.fr hf (h2 _) (h2 _), h''.fr hf (h2 _) (h2 _)⟩
theorem AkI.fr {F : Nat → Nat → Bool} {s' : xS} {H : Nat → Int} (h : AkI s n pl red H W S m G) (hf : fr F s s') (h1 : F 72 14 = false) (h2 : ∀ k, F 80 k = false) : AkI s' n pl red H W S m G := by
  rcases h with h | ⟨h, h'⟩
  · exact Or.inl (by rw [hf.i _ _ h1]; exact h)
  · exact Or.inr ⟨by rw [hf.i _ _ h1]; exact h, h'.fr hf h2⟩
theorem WlI.fr {F : Nat → Nat → Bool} {s' : xS} {H : Nat → Int} (h : WlI s n pl red H W S m G) (hf : fr F s s') (h1 : ∀ k, 10 ≤ k → k ≤ 16 → F 72 k = false) (h2 : ∀ k, F 78 k = false) (h3 : ∀ k, F 80 k = false) (h4 : ∀ k, F 81 k = false) : WlI s' n pl red H W S m G := ⟨h.1.fr hf ⟨h1 _ (by omega) (by omega), h1 _ (by omega) (by omega)⟩ h2, h.2.1.fr hf (h1 _ (by omega) (by omega)) h4, h.2.2.fr hf (h1 _ (by omega) (by omega)) h3⟩
theorem Fz_72 (k : Nat) : Fz 72 k = false := rfl
theorem WlI_z {s' : xS} {H : Nat → Int} (h : WlI s n pl red H W S m G) (hf : fr Fz s s') : WlI s' n pl red H W S m G := h.fr hf (fun _ _ _ => rfl) (fun _ => rfl) (fun _ => rfl) (fun _ => rfl)
theorem cl_count' (h : Core s b n pl red slip x W S st rc Rs) (hS : SgI s pl n m G) (hW : WlI s n pl red x.1 W S m G) : ok (f111 72 s) (fun r => fr FWc s r.1 ∧ Core r.1 b n pl red slip x W S st rc Rs ∧ SgI r.1 pl n m G ∧ WlI r.1 n pl red x.1 W S m G ∧ FtL r.1 (fLs n red x.1 W S G m) ∧ r.2 = iz (fLs n red x.1 W S G m).length) := by
  refine (cl_count h hS hW.1).mono (fun r ⟨a1, a2, a3, a4⟩ => ?_)
  exact ⟨a1.mono FWf_c, Core_Wc h (a1.mono FWf_c), SgI_Wc hS (a1.mono FWf_c), ⟨Or.inr ⟨a2, a3⟩, hW.2.1.fr a1 rfl (fun _ => rfl), hW.2.2.fr a1 rfl (fun _ => rfl)⟩, a3, a4⟩
theorem c_worlds (h : Core s b n pl red slip x W S st rc Rs) (hS : SgI s pl n m G) (hW : WlI s n pl red x.1 W S m G) : ok (f156 0 s) (fun r1 => ok (f268 101 r1.1) (fun r2 => r2.2 = r1.2 ∧ fr FWU s r2.1 ∧ WlI r2.1 n pl red x.1 W S m G)) := by
  unfold f156 f156_22
  rw [ifg_pos O_0]
  simp only [R_0_10, Option.bind_some]
  rw [cl_spent h]
  simp only [Option.bind_some]
  by_cases q : n = 5
  · rw [if_pos q, iz0, it_eq_f (by omega) (by omega) (by omega) (by omega) (by omega), ok_some]
    unfold f268
    rw [ifg_pos O_101, mo_spent h, if_pos q]
    simp only [Option.bind_some]
    rw [iz0, it_eq_f (by omega) (by omega) (by omega) (by omega) (by omega), ok_some]
    exact ⟨rfl, fr.rf _ _, hW⟩
  · rw [if_neg q, iz0, it_eq_t rfl]
    refine (cl_count' h hS hW).bind (fun r1 ⟨a1, a2, a3, a4, a5, a6⟩ => ?_)
    rw [ok_some]
    refine (mo_worlds a2 a3 q).mono (fun r2 ⟨b1, b2⟩ => ⟨b2.trans a6.symm, (a1.mono FWc_WU).tr (b1.mono Fz_WU), WlI_z a4 b1⟩)
theorem c_world (h : Core s b n pl red slip x W S st rc Rs) (hS : SgI s pl n m G) (hW : WlI s n pl red x.1 W S m G) {i : Int} (i0 : -2147483648 ≤ i) (i1 : i ≤ 2147483647) : ok (f157 0 (iz i) s) (fun r1 => ok (f269 101 (iz i) r1.1) (fun r2 => r2.2 = r1.2 ∧ fr FWU s r2.1 ∧ WlI r2.1 n pl red x.1 W S m G)) := by
  have ln := fLs_len (n := n) (red := red) (H := x.1) (W := W) (S := S) (G := G) m
  unfold f157 f157_25
  rw [ifg_pos O_0]
  simp only [R_0_10, Option.bind_some]
  rw [cl_spent h]
  simp only [Option.bind_some]
  by_cases q : n = 5
  · rw [if_pos q, iz0, it_eq_f (by omega) (by omega) (by omega) (by omega) (by omega), ok_some]
    unfold f269 f269_11
    rw [ifg_pos O_101, mo_spent h, if_pos q]
    simp only [Option.bind_some]
    rw [iz0, it_eq_f (by omega) (by omega) (by omega) (by omega) (by omega), ok_some]
    exact ⟨rfl, fr.rf _ _, hW⟩
  · rw [if_neg q, iz0, it_eq_t rfl]
    by_cases g : i < 0
    · rw [it_lt_t (by omega) (by omega) (by omega), ok_some]
      unfold f269 f269_11
      rw [ifg_pos O_101, mo_spent h, if_neg q]
      simp only [Option.bind_some]
      rw [iz0, it_eq_t rfl, it_le_f (by omega) (by omega) (by omega), ok_some]
      exact ⟨rfl, fr.rf _ _, hW⟩
    · rw [it_lt_f (by omega) (by omega) (by omega)]
      obtain ⟨j, rfl⟩ : ∃ j : Nat, i = j := ⟨i.toNat, by omega⟩
      refine (cl_count' h hS hW).bind (fun r1 ⟨a1, a2, a3, a4, a5, a6⟩ => ?_)
      rw [a6]
      by_cases e : j < (fLs n red x.1 W S G m).length
      · obtain ⟨N, hN⟩ := get_ex e
        rw [it_lt_t (by omega) (by omega) (by omega)]
        simp (disch := omega) only [R_0_10, R_72_9, A_78, Option.bind_some, iz_in, iz_n, nat_toNat, if_true, a5.2 j N hN, ok_some]
        refine (mo_world a2 a3 q (i := j) (by omega)).mono (fun r2 ⟨b1, b2⟩ => ⟨b2.trans (wAt_s hN), (a1.mono FWc_WU).tr (b1.mono Fz_WU), WlI_z a4 b1⟩)
      · rw [it_lt_f (by omega) (by omega) (by omega), ok_some]
        refine (mo_world a2 a3 q (i := j) (by omega)).mono (fun r2 ⟨b1, b2⟩ => ⟨b2.trans ((wAt_n (by omega)).trans izm1.symm), (a1.mono FWc_WU).tr (b1.mono Fz_WU), WlI_z a4 b1⟩)
/-! known -/
def knR (n : Nat) (hi : Bool) (L : List Nat) (p : Int) (v : Int32) : Prop := (bsO n hi L = none ∧ v = iz (-1)) ∨ ∃ q : Int × Int, bsO n hi L = some q ∧ 0 < q.2 ∧ v = (lz (prt q.1 q.2.toNat p)).toInt32
def kA (n : Nat) (hi : Bool) (L : List Nat) (a : Int64 × Int64) : Prop := (bsO n hi L = none ∧ a = (lz (-1), lz 1)) ∨ ∃ q : Int × Int, bsO n hi L = some q ∧ 0 < q.2 ∧ q.2 ≤ 32 ∧ 0 ≤ q.1 ∧ q.1 ≤ 1000000 ∧ a = (lz q.1, lz q.2)
set_option maxHeartbeats 400000 in
theorem mo_known (h : Core s b n pl red slip x W S st rc Rs) (hS : SgI s pl n m G) (hn : n ≠ 5) {hi : Bool} {y : Int32} (hy : (y = iz 0 ∧ hi = false) ∨ (y ≠ iz 0 ∧ hi = true)) {p : Int} (p0 : 0 ≤ p) (p1 : p ≤ 1) : ok (f270 101 y (iz p) s) (fun r => fr Fz s r.1 ∧ knR n hi (fLs n red x.1 W S G m) p r.2) := by
  have n3 := h.cn.2.1
  have n5 := h.cn.2.2
  unfold f270
  rw [ifg_pos O_101, g_mpart_t (by omega) (by omega) ⟨p0, p1⟩]
  simp only [Option.bind_some]
  rw [iz0, it_eq_f (by omega) (by omega) (by omega) (by omega) (by omega), mo_spent h, if_neg hn]
  simp only [Option.bind_some]
  rw [if_pos trivial]
  refine forzG (body := fun q : (Int64 × Int64 × Int32 × xS) => f270_29 101 y (iz p) q.1 q.2.1 q.2.2.1 q.2.2.2) (fun (a : Int64 × Int64) i w => (a.1, a.2, i, w)) (fun N a w => fr Fz s w ∧ kA n hi ((List.range N).filter (fW n red x.1 W S G m)) a) 0 343 (c0 := (-1, 1)) (by omega) ⟨fr.rf _ _, Or.inl ⟨rfl, rfl⟩⟩ (fun N a w _ hN ⟨c1, c2⟩ => ?_) (fun a w ⟨c1, c2⟩ => ?_)
  · have key : ok (f270_29 101 y (iz p) a.1 a.2 (iz N) w) (fun r => ∃ (c' : Int64 × Int64) (w' : xS), r = .inl (c'.1, c'.2, iz ((N : Int) + 1), w') ∧ fr Fz s w' ∧ kA n hi ((List.range (N + 1)).filter (fW n red x.1 W S G m)) c') := by
      unfold f270_29 f270_115
      rw [iz343, it_le_f (by omega) (by omega) (by omega)]
      have hw := Core_scr h c1
      refine (mo_fits hw (SgI_z hS c1) hN).bind (fun r1 ⟨d0, d2, d3⟩ => ?_)
      have d1 := d0.mono Ffm_z
      rw [List.range_succ, fl_1]
      rcases d3 with ⟨d3, d4⟩ | ⟨d3, d4⟩
      · rw [d3, iz0, it_eq_f (by omega) (by omega) (by omega) (by omega) (by omega), if_pos d4]
        have hr := Core_scr hw d1
        unfold f232
        rw [ifg_pos O_101]
        simp only [bind_assoc', Option.bind_some, iz1, iz4]
        refine (mo_alone1 hr.mn (p := 4) (by omega) (H := wH n N) (fun c hc => d2 c hc) (fun c hc => by have := wH_b n3 n5 hN hc; omega) (g := 1) (Or.inl rfl)).bind (fun r2 hr2 => ?_)
        refine hr2.bind (fun r3 ⟨e1, e2⟩ => ?_)
        have e3 : (fun c => (1 : Int) * wH n N c) = wH n N := by funext c; rw [Int.one_mul]
        rw [e3] at e2
        have hr3 := Core_scr hr (e1.mono FD0_z)
        rw [mo_most hr3.mn e2]
        have hs2 := mxS_bd (dR n 0 0) (GP n (wH n N) (dR n 0 0)) (B := 1000000) (by omega) (n * n) (fun c hc hd => (mo_gapOf hr3.mn e2 hc hd).2.2)
        have hE := wPE_b n3 n5 hN
        have e45 : r3.1.2 101 45 = lz (wE n N) := e2.e45
        have eP : mxS (dR n 0 0) (GP n (wH n N) (dR n 0 0)) (n * n) = wP n N := rfl
        rw [eP] at hs2 ⊢
        simp only [Option.bind_some]
        have f3 := (c1.tr d1).tr (e1.mono FD0_z)
        have upd : bsO n hi ((List.range N).filter (fW n red x.1 W S G m) ++ [N]) = some (wP n N, wE n N) → ok (f270_106 101 y (iz p) (iz N) (lz (wP n N)) r3.1) (fun r => ∃ (c' : Int64 × Int64) (w' : xS), r = .inl (c'.1, c'.2, iz ((N : Int) + 1), w') ∧ fr Fz s w' ∧ kA n hi ((List.range N).filter (fW n red x.1 W S G m) ++ [N]) c') := by
          intro hb
          unfold f270_106 f270_115
          rw [ok_some, e45, iz1, iz_add]
          exact ⟨(lz (wP n N), lz (wE n N)), r3.1, rfl, f3, Or.inr ⟨_, hb, hE.1, hE.2, hs2.1, hs2.2, rfl⟩⟩
        rcases c2 with ⟨k1, rfl⟩ | ⟨q, k1, k2, k3, k4, k5, rfl⟩
        · simp only [lz0]
          rw [lk_lt_t (by omega) (by omega) (by omega) (by omega) (by omega)]
          exact upd (by rw [bsO_1, k1]; rfl)
        · have m1 := mbd (B := 1000000) (C := 32) (x := wP n N) (y := q.2) (by omega) (by omega) (by omega) (by omega)
          have m2 := mbd (B := 1000000) (C := 32) (x := q.1) (y := wE n N) (by omega) (by omega) (by omega) (by omega)
          simp only [lz0]
          rw [lk_lt_f (by omega) (by omega) (by omega) (by omega) (by omega), e45, lz_mul, lz_mul]
          have old : bsO n hi ((List.range N).filter (fW n red x.1 W S G m) ++ [N]) = some q → ok (some (Sum.inl (lz q.1, lz q.2, iz N + iz 1, r3.1)) : Option ((Int64 × Int64 × Int32 × xS) ⊕ (xS × Int32))) (fun r => ∃ (c' : Int64 × Int64) (w' : xS), r = .inl (c'.1, c'.2, iz ((N : Int) + 1), w') ∧ fr Fz s w' ∧ kA n hi ((List.range N).filter (fW n red x.1 W S G m) ++ [N]) c') := by
            intro hb
            rw [ok_some, iz_add]
            exact ⟨(lz q.1, lz q.2), r3.1, rfl, f3, Or.inr ⟨_, hb, k2, k3, k4, k5, rfl⟩⟩
          rcases hy with ⟨rfl, rfl⟩ | ⟨hy, rfl⟩
          · rw [it_eq_t rfl]
            by_cases c : wP n N * q.2 < q.1 * wE n N
            · rw [lk_lt_t c (by omega) (by omega) (by omega) (by omega)]
              exact upd (by rw [bsO_1, k1, stB_s, if_pos (btw_f.mpr c)])
            · rw [lk_lt_f (by omega) (by omega) (by omega) (by omega) (by omega)]
              exact old (by rw [bsO_1, k1, stB_s, if_neg (fun r => c (btw_f.mp r))])
          · rw [if_neg hy]
            by_cases c : q.1 * wE n N < wP n N * q.2
            · rw [lk_gt_t c (by omega) (by omega) (by omega) (by omega)]
              exact upd (by rw [bsO_1, k1, stB_s, if_pos (btw_t.mpr c)])
            · rw [lk_gt_f (by omega) (by omega) (by omega) (by omega) (by omega)]
              exact old (by rw [bsO_1, k1, stB_s, if_neg (fun r => c (btw_t.mp r))])
      · rw [d3, iz0, it_eq_t rfl, if_neg (by rw [d4]; decide), ok_some, iz1, iz_add]
        exact ⟨a, r1.1, rfl, c1.tr d1, c2⟩
    obtain ⟨r, e1, c', w', e2, e3⟩ := key
    rw [e2] at e1
    exact ⟨c', w', e1, e3⟩
  · have key : ok (f270_29 101 y (iz p) a.1 a.2 (iz ((343 : Nat) : Int)) w) (fun r => ∃ v, r = .inr v ∧ fr Fz s v.1 ∧ knR n hi (fLs n red x.1 W S G m) p v.2) := by
      unfold f270_29 f270_139
      rw [iz343, show ((343 : Nat) : Int) = 343 from rfl, it_le_t (by omega) (by omega) (by omega)]
      rcases c2 with ⟨k1, rfl⟩ | ⟨q, k1, k2, k3, k4, k5, rfl⟩
      · simp only [lz0, iz0]
        rw [lk_ge_f (by omega) (by omega) (by omega) (by omega) (by omega), ok_map, ok_some]
        exact ⟨_, rfl, c1, Or.inl ⟨k1, izm1⟩⟩
      · simp only [lz0, iz0]
        rw [lk_ge_t (by omega) (by omega) (by omega) (by omega) (by omega), lowM (by omega) (by omega) (by omega) (by omega) (by omega) (by omega)]
        simp only [Option.bind_some, ok_map, ok_some]
        exact ⟨_, rfl, c1, Or.inr ⟨q, k1, k2, rfl⟩⟩
    obtain ⟨r, e1, v, e2, e3⟩ := key
    rw [e2] at e1
    exact ⟨v, e1, e3⟩
end WB
