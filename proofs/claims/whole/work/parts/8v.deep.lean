/-! deepest, both sides -/
section DM
variable {s : xS} {b n pl : Nat} {red slip : Int} {x : sS} {W S : Nat → Int} {st : Int32} {rc : Nat} {Rs : Nat → Rn} {R : Rn}
def F113 (id k : Nat) : Bool := id == 113 && Nat.ble (k + 1) 100
theorem F113_t {k : Nat} (h : k < 100) : F113 113 k = true := by
  unfold F113
  rw [bleT (show k + 1 ≤ 100 by omega)]
  rfl
theorem F113_W (id k : Nat) (h : F113 id k = true) : FW id k = true := by
  unfold F113 at h
  rw [Bool.and_eq_true, beq_iff_eq] at h
  obtain ⟨rfl, -⟩ := h
  exact FV_W _ _ rfl
/-- what findDeep holds -/
def dpM (s : xS) (n : Nat) (red : Int) (W S : Nat → Int) (R : Rn) (x : sS) (d : Nat) (v : Int32) : Prop := (d = 0 ∧ v = iz (-1)) ∨ (1 ≤ d ∧ v = iz (dpB n red W S R x d) ∧ s.2 101 61 = lz (dpP n red W S R x (dpB n red W S R x d)) ∧ s.2 101 62 = lz (dpE n red W S R x (dpB n red W S R x d)))
theorem scr_h0 {n : Nat} {dp : Int} {b0 : Nat} {r : Nat → Bool} {x : sS} (c k : Nat) : (scr n 0 dp b0 r (c + 1) x).1.1 k = if r c = true ∧ -999 ≤ (scr n 0 dp b0 r c x).1.1 (b0 + c) then (if k = b0 + c then (scr n 0 dp b0 r c x).1.1 (b0 + c) - dp else (scr n 0 dp b0 r c x).1.1 k) else (scr n 0 dp b0 r c x).1.1 k := by
  rw [scr]
  by_cases q : r c = true ∧ -999 ≤ (scr n 0 dp b0 r c x).1.1 (b0 + c)
  · rw [if_pos q, if_pos q]
    have e : ∀ y : sS, sl1 n 0 b0 c y = y := fun y => by unfold sl1; rw [if_pos (by omega)]
    dsimp only
    rw [e]
    unfold tk
    rw [if_neg (by omega)]
  · rw [if_neg q, if_neg q]
theorem dpP_b (hx : Hb x) (hws : Ws W S) (hv : Rv pl n R) (hpl : pl ≤ 4) {d : Nat} (d9 : d ≤ 9) {N : Int32} {t : xS} (hn : Mn t b N n) (hg : MG t n (dR n 0 0) (hZ 1 (dpY n red W S R x d).1 R.2.2.2.2.2.1)) : 0 ≤ dpP n red W S R x d ∧ dpP n red W S R x d ≤ 1000000 := mxS_bd (dR n 0 0) _ (B := 1000000) (by omega) (n * n) (fun c hc hd => (mo_gapOf hn hg hc hd).2.2)
set_option maxHeartbeats 1000000 in
theorem mo_deepest (h : Core s b n pl red slip x W S st rc Rs) {r : Nat} (hr : r < rc) : ok (f248 101 (iz r) s) (fun o => fr FU s o.1 ∧ Core o.1 b n pl red slip x W S st rc Rs ∧ dpM o.1 n red W S (Rs r) x 9 o.2 ∧ 0 ≤ dpP n red W S (Rs r) x (dpB n red W S (Rs r) x 9) ∧ dpP n red W S (Rs r) x (dpB n red W S (Rs r) x 9) ≤ 1000000) := by
  have hpl := h.p4
  have hrc := h.rc10
  have sq := h.cn.sq
  have hV := h.2.2
  have hv := hV.2.2.2.2.2.2.2.2.2.2 r hr
  have hv' := hv
  obtain ⟨v1, v2, v3, v4, v5, v6, v7⟩ := hv
  have hx := hV.2.2.2.2.2.2.2.1
  have hws := hV.2.2.2.2.2.2.2.2.1
  have hsp : (Rs r).2.2.2.2.2.1 < pl := by rcases v5 with q | q <;> rw [q] <;> omega
  have hsc : (Rs r).2.2.2.2.2.1 < 4 := by omega
  have hM := h.2.1
  unfold f248
  rw [ifg_pos O_101]
  refine (mo_findRed hM.1 hM.2.2.2.2.1 h.bd hv' hpl (show r < 20 by omega) (hM.2.2.2.2.2.2.2.2.1 r hr) hM.2.2.1 hV.2.2.2.1 hV.2.2.2.2.1).bind (fun r1 ⟨a1, a2⟩ => ?_)
  have hM1 := KM_scr hM (a1.mono FF_z) hrc
  rw [iz3]
  refine (mo_keep hM1 (q := 3) (by omega) hpl).bind (fun r2 ⟨b1, b2, b3⟩ => ?_)
  have hM2 := KM_scr hM1 (b1.mono FK3_z) hrc
  have q5 := (hM2.2.2.2.2.2.2.2.2.1 r hr).2.2.2.2.2.1
  simp (disch := omega) only [R_101_35, A_123, q5, iz0, iz1, iz2, iz3, iz4, iz5, iz7, iz8, iz9, iz10, iz15, iz20, iz25, iz30, iz40, iz49, iz99, iz100, iz300, iz343, iz500, iz999, iz1000, iz1200, iz_add, iz_sub, iz_mul, iz_neg, it_le_t, it_le_f, it_lt_t, it_lt_f, it_eq_t, it_eq_f, bz0, bz1, ifg_T, or_true, true_or, if_true, if_false, Option.bind_some, Option.map_some, iz_in, iz_n, nat_toNat]
  have e25 : iz (25 * ((Rs r).2.2.2.2.2.1 : Int)) = iz ((25 * (Rs r).2.2.2.2.2.1 : Nat) : Int) := by congr 1
  rw [e25]
  have f2 : fr FU s r2.1 := (a1.mono (fun id k hk => Fz_U id k (FF_z id k hk))).tr (b1.mono (fun id k hk => Fz_U id k (FK3_z id k hk)))
  have hC2 : KC r2.1 n pl red slip x W S st rc Rs := KC_scr (KC_scr h.1 (a1.mono FF_z) hrc) (b1.mono FK3_z) hrc
  have a2' : ∀ c, c < n * n → r2.1.1 127 c = if rS n red W S (Rs r) x.1 c = true then iz 1 else iz 0 := fun c hc => by rw [b1.i _ _ rfl]; exact a2 c hc
  refine forzA (A := Int32) (fun d v w => fr FU s w ∧ KC w n pl red slip x W S st rc Rs ∧ KM w b n pl red slip x W S st rc Rs ∧ (∀ c, c < n * n → w.1 127 c = if rS n red W S (Rs r) x.1 c = true then iz 1 else iz 0) ∧ BxM w 3 n pl x W S st ∧ dpM w n red W S (Rs r) x (d - 1) v ∧ (1 ≤ d - 1 → 0 ≤ dpP n red W S (Rs r) x (dpB n red W S (Rs r) x (d - 1)) ∧ dpP n red W S (Rs r) x (dpB n red W S (Rs r) x (d - 1)) ≤ 1000000)) 1 10 (by omega) (by omega) ⟨f2, hC2, hM2, a2', b2, Or.inl ⟨rfl, rfl⟩, fun q => by omega⟩ (fun d v w hd1 hd ⟨e1, e2, e3, e4, e5, e6, e7⟩ => ?_) (fun v w ⟨e1, e2, e3, e4, e5, e6, e7⟩ => ?_)
  · unfold f248_25
    rw [iz9, it_lt_f (by omega) (by omega) (by omega)]
    have hY := dpY_b (red := red) (W := W) (S := S) hx hv' hpl (show d ≤ 9 by omega)
    simp only [iz0]
    have hin := forz (body := fun q : (Int32 × xS) => f248_35 101 (iz r) v (iz ((25 * (Rs r).2.2.2.2.2.1 : Nat) : Int)) (iz d) q.1 q.2) (fun c u => fr F113 w u ∧ ∀ k, Us n pl k → u.1 113 k = iz ((scr n 0 d (25 * (Rs r).2.2.2.2.2.1) (rS n red W S (Rs r) x.1) c x).1.1 k)) 0 (n * n) (Q := fun o : (Int32 × Int32 × xS) ⊕ (xS × Int32) => lpA ((d : Int) + 1) (fun v w => fr FU s w ∧ KC w n pl red slip x W S st rc Rs ∧ KM w b n pl red slip x W S st rc Rs ∧ (∀ c, c < n * n → w.1 127 c = if rS n red W S (Rs r) x.1 c = true then iz 1 else iz 0) ∧ BxM w 3 n pl x W S st ∧ dpM w n red W S (Rs r) x (d + 1 - 1) v ∧ (1 ≤ d + 1 - 1 → 0 ≤ dpP n red W S (Rs r) x (dpB n red W S (Rs r) x (d + 1 - 1)) ∧ dpP n red W S (Rs r) x (dpB n red W S (Rs r) x (d + 1 - 1)) ≤ 1000000)) (fun _ => False) o) (s0 := w) (by omega) (by omega) ⟨fr.rf _ _, fun k hk => e3.2.2.2.2.2.1.1 k hk⟩ (fun c u _ hc ⟨u1, u2⟩ => ?_) (fun u ⟨u1, u2⟩ => ?_)
    · refine hin.mono (fun o ho => ?_)
      cases o with
      | inr o => exact ho.elim
      | inl o => exact ho
    · have hnu : Mn u b (iz n) n := e3.1.fr u1 rfl (fun _ => rfl)
      have hT : u.1 127 c = if rS n red W S (Rs r) x.1 c = true then iz 1 else iz 0 := by rw [u1.i _ _ rfl]; exact e4 c hc
      have hh := u2 (25 * (Rs r).2.2.2.2.2.1 + c) (us_of hsp hpl hc sq)
      have hyc := scr_b (slip := 0) (r := rS n red W S (Rs r) x.1) hx (show 25 * (Rs r).2.2.2.2.2.1 + n * n ≤ 100 by omega) (show (0 : Int) ≤ d by omega) (show (d : Int) ≤ 9 by omega) c (by omega) (25 * (Rs r).2.2.2.2.2.1 + c) (by omega)
      have en : (((25 * (Rs r).2.2.2.2.2.1 : Nat) : Int) + c).toNat = 25 * (Rs r).2.2.2.2.2.1 + c := by omega
      unfold f248_35 f248_83
      simp (disch := omega) only [hnu.zc, R_101_49, A_127, R_101_20, A_113, W_113, iz0, iz1, iz2, iz3, iz4, iz5, iz7, iz8, iz9, iz10, iz15, iz20, iz25, iz30, iz40, iz49, iz99, iz100, iz300, iz343, iz500, iz999, iz1000, iz1200, iz_add, iz_sub, iz_mul, iz_neg, it_le_t, it_le_f, it_lt_t, it_lt_f, it_eq_t, it_eq_f, bz0, bz1, ifg_T, or_true, true_or, if_true, if_false, Option.bind_some, Option.map_some, iz_in, iz_n, nat_toNat, en, hT, hh]
      by_cases q1 : rS n red W S (Rs r) x.1 c = true
      · rw [if_pos q1]
        simp (disch := omega) only [iz0, iz1, iz2, iz3, iz4, iz5, iz7, iz8, iz9, iz10, iz15, iz20, iz25, iz30, iz40, iz49, iz99, iz100, iz300, iz343, iz500, iz999, iz1000, iz1200, iz_add, iz_sub, iz_mul, iz_neg, it_le_t, it_le_f, it_lt_t, it_lt_f, it_eq_t, it_eq_f, bz0, bz1, ifg_T, or_true, true_or, if_true, if_false, Option.bind_some, Option.map_some]
        by_cases q2 : (scr n 0 d (25 * (Rs r).2.2.2.2.2.1) (rS n red W S (Rs r) x.1) c x).1.1 (25 * (Rs r).2.2.2.2.2.1 + c) < -999
        · rw [it_lt_t q2 (by omega) (by omega)]
          simp only [ok_some, ok_map, lp_l, lp_r, lpA_l, lpA_r, true_and]
          refine ⟨u1, fun k hk => ?_⟩
          rw [scr_h0, if_neg (fun z => by omega)]
          exact u2 k hk
        · rw [it_lt_f (by omega) (by omega) (by omega)]
          simp only [ok_some, ok_map, lp_l, lp_r, lpA_l, lpA_r, true_and]
          refine ⟨u1.ui (F113_t (by omega)), fun k hk => ?_⟩
          rw [scr_h0, if_pos ⟨q1, by omega⟩]
          by_cases e : k = 25 * (Rs r).2.2.2.2.2.1 + c
          · rw [if_pos e, e, up_eq]
          · rw [if_neg e, up_ix _ _ e]; exact u2 k hk
      · rw [if_neg q1]
        simp (disch := omega) only [iz0, iz1, iz2, iz3, iz4, iz5, iz7, iz8, iz9, iz10, iz15, iz20, iz25, iz30, iz40, iz49, iz99, iz100, iz300, iz343, iz500, iz999, iz1000, iz1200, iz_add, iz_sub, iz_mul, iz_neg, it_le_t, it_le_f, it_lt_t, it_lt_f, it_eq_t, it_eq_f, bz0, bz1, ifg_T, or_true, true_or, if_true, if_false, Option.bind_some, Option.map_some, ok_some, ok_map, lp_l, lp_r, lpA_l, lpA_r, true_and]
        refine ⟨u1, fun k hk => ?_⟩
        rw [scr_h0, if_neg (fun z => q1 z.1)]
        exact u2 k hk
    · have hnu : Mn u b (iz n) n := e3.1.fr u1 rfl (fun _ => rfl)
      have q5u : u.1 123 r = iz (Rs r).2.2.2.2.2.1 := by rw [u1.i _ _ rfl]; exact (e3.2.2.2.2.2.2.2.2.1 r hr).2.2.2.2.2.1
      unfold f248_35 f232
      simp (disch := omega) only [ifg_pos O_101, hnu.zc, R_101_35, A_123, q5u, iz0, iz1, iz2, iz3, iz4, iz5, iz7, iz8, iz9, iz10, iz15, iz20, iz25, iz30, iz40, iz49, iz99, iz100, iz300, iz343, iz500, iz999, iz1000, iz1200, iz_add, iz_sub, iz_mul, iz_neg, it_le_t, it_le_f, it_lt_t, it_lt_f, it_eq_t, it_eq_f, bz0, bz1, ifg_T, or_true, true_or, if_true, if_false, Option.bind_some, Option.map_some, iz_in, iz_n, nat_toNat, bind_assoc', ok_map]
      refine (mo_alone1 hnu (show (Rs r).2.2.2.2.2.1 < 5 by omega) (H := fun c => (dpY n red W S (Rs r) x d).1 (25 * (Rs r).2.2.2.2.2.1 + c)) (fun c hc => u2 _ (us_of hsp hpl hc sq)) (fun c hc => by have := hY (25 * (Rs r).2.2.2.2.2.1 + c) (by omega); omega) (g := 1) (by omega)).bind (fun t1 ht1 => ?_)
      refine ht1.bind (fun t2 ⟨g1, g2⟩ => ?_)
      have g3 : MG t2.1 n (dR n 0 0) (hZ 1 (dpY n red W S (Rs r) x d).1 (Rs r).2.2.2.2.2.1) := g2
      -- bring
      have fw : fr FW w t2.1 := (u1.mono F113_W).tr (g1.mono FD_W)
      obtain ⟨x1, x2, x3, x4⟩ := FW_bx 3
      have kmz : KM t2.1 b n pl red slip ((scr n 0 d (25 * (Rs r).2.2.2.2.2.1) (rS n red W S (Rs r) x.1) (n * n) x).1.1, x.2.1, x.2.2) W S st rc Rs := by
        obtain ⟨d1, d2, d3, d4, d5, d6, d7, d8, d9, d10, d11⟩ := e3
        have k1 : KM u b n pl red slip ((scr n 0 d (25 * (Rs r).2.2.2.2.2.1) (rS n red W S (Rs r) x.1) (n * n) x).1.1, x.2.1, x.2.2) W S st rc Rs := by
          refine ⟨hnu, by rw [u1.i _ _ rfl]; exact d2, by rw [u1.i _ _ rfl]; exact d3, by rw [u1.i _ _ rfl]; exact d4, ⟨fun k hk => ⟨fun u => u2 k u, by rw [u1.i _ _ rfl]; exact (d5.1 k hk).2⟩, ?_⟩, ⟨u2, by rw [u1.i _ _ rfl]; exact d6.2.1, by rw [u1.i _ _ rfl]; exact d6.2.2⟩, by rw [u1.i _ _ rfl]; exact d7, by rw [u1.i _ _ rfl]; exact d8, fun j hj => (d9 j hj).fr u1 rfl rfl rfl rfl rfl rfl rfl, fun c hc => by rw [u1.i _ _ rfl]; exact d10 c hc, by rw [u1.i _ _ rfl]; exact d11⟩
          have z3 : u.1 115 = w.1 115 := u1.ci 115 (fun _ => rfl)
          have z4 : u.1 116 = w.1 116 := u1.ci 116 (fun _ => rfl)
          have z5 : u.1 117 = w.1 117 := u1.ci 117 (fun _ => rfl)
          unfold MF
          rw [z3, z4, z5]
          exact d5.2
        exact KM_scr k1 (g1.mono FD0_z) hrc
      refine (mo_bring kmz (q := 3) (by omega) (e5.fr fw x1 x2 x3 x4)).bind (fun t3 ⟨l1, l2⟩ => ?_)
      have g4 := g3.fr l1 (fun _ => rfl) (fun _ => rfl) rfl rfl rfl rfl
      have hPb := dpP_b hx hws hv' hpl (show d ≤ 9 by omega) l2.1 g4
      obtain ⟨p1, p2, p3, p4⟩ := dp_bd (red := red) hx hws hv' hpl (show d ≤ 9 by omega)
      have fU : fr FU s t3.1 := (e1.tr (fw.mono FW_U)).tr (l1.mono FG_U)
      have kc3 : KC t3.1 n pl red slip x W S st rc Rs := KC_i (KC_W e2 fw hrc) l1 hrc (fun id k hi => FG_le id k hi)
      have e4' : ∀ c, c < n * n → t3.1.1 127 c = if rS n red W S (Rs r) x.1 c = true then iz 1 else iz 0 := fun c hc => by rw [l1.i _ _ rfl, g1.i _ _ rfl, u1.i _ _ rfl]; exact e4 c hc
      have e5' : BxM t3.1 3 n pl x W S st := (e5.fr fw x1 x2 x3 x4).fr l1 ⟨rfl, rfl, rfl⟩ (fun _ _ => ⟨rfl, rfl⟩) (fun _ _ => rfl) (fun _ _ => ⟨rfl, rfl⟩)
      have most : f223 101 t3.1 = some (t3.1, lz (dpP n red W S (Rs r) x d)) := mo_most l2.1 g4
      have e45 : t3.1.2 101 45 = lz (dpE n red W S (Rs r) x d) := g4.e45
      have F61 : ∀ (a c : Int64), fr FU t3.1 (t3.1.1, xm_up (xm_up t3.1.2 101 61 a) 101 62 c) := fun a c => ((fr.rf _ _).ul rfl).ul rfl
      have F61z : ∀ (a c : Int64), fr Fz t3.1 (t3.1.1, xm_up (xm_up t3.1.2 101 61 a) 101 62 c) := fun a c => ((fr.rf _ _).ul rfl).ul rfl
      have upd : dpB n red W S (Rs r) x d = d → ok (f248_133 101 (iz r) (iz ((25 * (Rs r).2.2.2.2.2.1 : Nat) : Int)) (iz d) t3.1) (fun o => lpA ((d : Int) + 1) (fun v w => fr FU s w ∧ KC w n pl red slip x W S st rc Rs ∧ KM w b n pl red slip x W S st rc Rs ∧ (∀ c, c < n * n → w.1 127 c = if rS n red W S (Rs r) x.1 c = true then iz 1 else iz 0) ∧ BxM w 3 n pl x W S st ∧ dpM w n red W S (Rs r) x (d + 1 - 1) v ∧ (1 ≤ d + 1 - 1 → 0 ≤ dpP n red W S (Rs r) x (dpB n red W S (Rs r) x (d + 1 - 1)) ∧ dpP n red W S (Rs r) x (dpB n red W S (Rs r) x (d + 1 - 1)) ≤ 1000000)) (fun _ : xS × Int32 => False) o) := by
        intro hbd
        unfold f248_133 f248_152
        rw [most]
        simp only [Option.bind_some, pL, ok_some, lpA_l, iz1, iz_add, true_and]
        have e45' : xm_up t3.1.2 101 61 (lz (dpP n red W S (Rs r) x d)) 101 45 = lz (dpE n red W S (Rs r) x d) := by rw [up_ix _ _ (by omega)]; exact e45
        rw [e45']
        refine ⟨fU.tr (F61 _ _), KC_scr kc3 (F61z _ _) hrc, KM_scr l2 (F61z _ _) hrc, e4', e5', Or.inr ⟨by omega, by rw [Nat.add_sub_cancel, hbd], ?_, ?_⟩, fun _ => by rw [Nat.add_sub_cancel, hbd]; exact hPb⟩
        · rw [Nat.add_sub_cancel, hbd]
          simp (disch := omega) only [up_ix, up_eq]
        · rw [Nat.add_sub_cancel, hbd]
          simp (disch := omega) only [up_eq]
      obtain ⟨g, rfl⟩ : ∃ g, d = g + 1 := ⟨d - 1, by omega⟩
      rw [Nat.add_sub_cancel] at e6 e7
      have hbl := dpB_le (n := n) (red := red) (W := W) (S := S) (R := Rs r) (x := x) g
      rcases e6 with ⟨g0, hv0⟩ | ⟨g0, hv0, w61, w62⟩
      · subst g0 hv0
        rw [it_lt_t (by omega) (by omega) (by omega)]
        exact upd rfl
      · subst hv0
        have hb1 := hbl.2 g0
        rw [it_lt_f (by omega) (by omega) (by omega), most]
        obtain ⟨o1, o2, -, -⟩ := dp_bd (red := red) hx hws hv' hpl (show dpB n red W S (Rs r) x g ≤ 9 by omega)
        have hPg := e7 g0
        have w61' : t3.1.2 101 61 = lz (dpP n red W S (Rs r) x (dpB n red W S (Rs r) x g)) := by rw [l1.l _ _ rfl, g1.l _ _ rfl, u1.l _ _ rfl]; exact w61
        have w62' : t3.1.2 101 62 = lz (dpE n red W S (Rs r) x (dpB n red W S (Rs r) x g)) := by rw [l1.l _ _ rfl, g1.l _ _ rfl, u1.l _ _ rfl]; exact w62
        simp only [Option.bind_some, w61', w62', e45, lz_mul]
        have m1 := mbd (B := 1000000) (C := 32) (x := dpP n red W S (Rs r) x (g + 1)) (y := dpE n red W S (Rs r) x (dpB n red W S (Rs r) x g)) (by omega) hPb.2 (by omega) o2
        have m2 := mbd (B := 1000000) (C := 32) (x := dpP n red W S (Rs r) x (dpB n red W S (Rs r) x g)) (y := dpE n red W S (Rs r) x (g + 1)) (by omega) hPg.2 (by omega) p2
        by_cases q : dpP n red W S (Rs r) x (g + 1) * dpE n red W S (Rs r) x (dpB n red W S (Rs r) x g) < dpP n red W S (Rs r) x (dpB n red W S (Rs r) x g) * dpE n red W S (Rs r) x (g + 1)
        · rw [lk_lt_t q (by omega) (by omega) (by omega) (by omega)]
          refine upd ?_
          simp only [dpB]
          rw [if_neg (by omega), if_pos q]
        · rw [lk_lt_f (by omega) (by omega) (by omega) (by omega) (by omega)]
          have hbd : dpB n red W S (Rs r) x (g + 1) = dpB n red W S (Rs r) x g := by
            simp only [dpB]
            rw [if_neg (by omega), if_neg q]
          unfold f248_152
          simp only [ok_some, lpA_l, iz1, iz_add, true_and]
          exact ⟨rfl, fU, kc3, l2, e4', e5', Or.inr ⟨by omega, by rw [Nat.add_sub_cancel, hbd], by rw [Nat.add_sub_cancel, hbd]; exact w61', by rw [Nat.add_sub_cancel, hbd]; exact w62'⟩, fun _ => by rw [Nat.add_sub_cancel, hbd]; exact hPg⟩
  · unfold f248_25
    rw [iz9, it_lt_t (by omega) (by omega) (by omega)]
    simp only [ok_some, ok_map, lp_l, lp_r, lpA_l, lpA_r, true_and]
    exact ⟨e1, ⟨e2, e3, hV⟩, e6, e7 (by omega)⟩
theorem c_deepest (h : Core s b n pl red slip x W S st rc Rs) {i w : Int} (i0 : -2147483648 ≤ i) (i1 : i ≤ 2147483647) (w0 : -2147483648 ≤ w) (w1 : w ≤ 2147483647) : ok (f154 0 (iz i) (iz w) s) (fun r1 => ok (f249 101 (iz i) (iz w) r1.1) (fun r2 => r2.2 = r1.2 ∧ fr FU s r2.1 ∧ Core r2.1 b n pl red slip x W S st rc Rs)) := by
  have hrc := h.rc10
  have hpl := h.p4
  have c9 := h.1.2.2.2.2.2.2.2.1
  have m37 := h.2.1.2.2.2.2.2.2.2.1
  have hV := h.2.2
  unfold f154 f154_20
  rw [ifg_pos O_0]
  by_cases g : 0 ≤ i ∧ i < rc
  · by_cases gw : 0 ≤ w ∧ w ≤ 2
    · obtain ⟨r, rfl⟩ : ∃ r : Nat, i = r := ⟨i.toNat, by omega⟩
      have hr : r < rc := by omega
      have hv := hV.2.2.2.2.2.2.2.2.2.2 r hr
      simp (disch := omega) only [R_0_3, R_0_9, R_9_0, iz0, iz1, iz2, iz3, iz4, iz5, iz7, iz8, iz9, iz10, iz15, iz20, iz25, iz30, iz40, iz49, iz99, iz100, iz300, iz343, iz500, iz999, iz1000, iz1200, iz_add, iz_sub, iz_mul, iz_neg, it_le_t, it_le_f, it_lt_t, it_lt_f, it_eq_t, it_eq_f, bz0, bz1, ifg_T, or_true, true_or, if_true, if_false, Option.bind_some, Option.map_some, g_has_t c9 hrc, AR_10 (show r < 10 by omega)]
      rw [ifg_pos (R_O (isR_of (show r < 10 by omega)))]
      refine (cl_deepest h hr).bind (fun q1 ⟨a1, a2⟩ => ?_)
      have h1 := Core_scr h a1
      have m37' := h1.2.1.2.2.2.2.2.2.2.1
      have key := mo_deepest h1 hr
      have hbl := dpB_le (n := n) (red := red) (W := W) (S := S) (R := Rs r) (x := x) 9
      obtain ⟨u, v, k1, k2, k3, k4, k5, k6, k7⟩ := a2.2 (by omega)
      obtain ⟨o1, o2, -, -⟩ := dp_bd (red := red) hV.2.2.2.2.2.2.2.1 hV.2.2.2.2.2.2.2.2.1 hv hpl (show dpB n red W S (Rs r) x 9 ≤ 9 by omega)
      by_cases q0 : w = 0
      · subst q0
        simp (disch := omega) only [iz0, iz1, iz2, iz3, iz4, iz5, iz7, iz8, iz9, iz10, iz15, iz20, iz25, iz30, iz40, iz49, iz99, iz100, iz300, iz343, iz500, iz999, iz1000, iz1200, iz_add, iz_sub, iz_mul, iz_neg, it_le_t, it_le_f, it_lt_t, it_lt_f, it_eq_t, it_eq_f, bz0, bz1, ifg_T, or_true, true_or, if_true, if_false, Option.bind_some, Option.map_some, ok_some]
        unfold f249 f249_54
        rw [ifg_pos O_101]
        simp (disch := omega) only [m37', iz0, iz1, iz2, iz3, iz4, iz5, iz7, iz8, iz9, iz10, iz15, iz20, iz25, iz30, iz40, iz49, iz99, iz100, iz300, iz343, iz500, iz999, iz1000, iz1200, iz_add, iz_sub, iz_mul, iz_neg, it_le_t, it_le_f, it_lt_t, it_lt_f, it_eq_t, it_eq_f, bz0, bz1, ifg_T, or_true, true_or, if_true, if_false, Option.bind_some, Option.map_some, g_in_t]
        refine key.bind (fun q2 ⟨b1, b2, b3, b4⟩ => ?_)
        simp only [ok_some]
        rcases b3 with ⟨b3, -⟩ | ⟨-, b3, b5, b6⟩
        · omega
        · exact ⟨by rw [b3, a2.1], (a1.mono Fz_U).tr b1, b2⟩
      · simp (disch := omega) only [iz0, iz1, iz2, iz3, iz4, iz5, iz7, iz8, iz9, iz10, iz15, iz20, iz25, iz30, iz40, iz49, iz99, iz100, iz300, iz343, iz500, iz999, iz1000, iz1200, iz_add, iz_sub, iz_mul, iz_neg, it_le_t, it_le_f, it_lt_t, it_lt_f, it_eq_t, it_eq_f, bz0, bz1, ifg_T, or_true, true_or, if_true, if_false, Option.bind_some, Option.map_some, k1, k2, iz_l, lowC, ok_some]
        unfold f249 f249_54
        rw [ifg_pos O_101]
        simp (disch := omega) only [m37', iz0, iz1, iz2, iz3, iz4, iz5, iz7, iz8, iz9, iz10, iz15, iz20, iz25, iz30, iz40, iz49, iz99, iz100, iz300, iz343, iz500, iz999, iz1000, iz1200, iz_add, iz_sub, iz_mul, iz_neg, it_le_t, it_le_f, it_lt_t, it_lt_f, it_eq_t, it_eq_f, bz0, bz1, ifg_T, or_true, true_or, if_true, if_false, Option.bind_some, Option.map_some, g_in_t]
        refine key.bind (fun q2 ⟨b1, b2, b3, b4, b4'⟩ => ?_)
        rcases b3 with ⟨b3, -⟩ | ⟨-, b3, b5, b6⟩
        · omega
        · simp (disch := omega) only [b5, b6, lowM, Option.bind_some, ok_some]
          exact ⟨by rw [prt_E k5 o1 k7], (a1.mono Fz_U).tr b1, b2⟩
    · have fin : ok (f249 101 (iz i) (iz w) s) (fun r2 => r2.2 = iz (-1) ∧ fr FU s r2.1 ∧ Core r2.1 b n pl red slip x W S st rc Rs) := by
        unfold f249 f249_23
        rw [ifg_pos O_101]
        simp only [m37, iz1, iz_sub, iz0]
        rw [g_in_t i0 i1 (by omega) (by omega) (by omega) (by omega) (by omega)]
        simp (disch := omega) only [iz0, iz1, iz2, iz3, iz4, iz5, iz7, iz8, iz9, iz10, iz15, iz20, iz25, iz30, iz40, iz49, iz99, iz100, iz300, iz343, iz500, iz999, iz1000, iz1200, iz_add, iz_sub, iz_mul, iz_neg, it_le_t, it_le_f, it_lt_t, it_lt_f, it_eq_t, it_eq_f, bz0, bz1, ifg_T, or_true, true_or, if_true, if_false, Option.bind_some, Option.map_some, g_in_f, ok_some, true_and]
        exact ⟨fr.rf _ _, h⟩
      by_cases g1 : 0 ≤ w
      · simp (disch := omega) only [R_0_3, iz0, iz1, iz2, iz3, iz4, iz5, iz7, iz8, iz9, iz10, iz15, iz20, iz25, iz30, iz40, iz49, iz99, iz100, iz300, iz343, iz500, iz999, iz1000, iz1200, iz_add, iz_sub, iz_mul, iz_neg, it_le_t, it_le_f, it_lt_t, it_lt_f, it_eq_t, it_eq_f, bz0, bz1, ifg_T, or_true, true_or, if_true, if_false, Option.bind_some, Option.map_some, g_has_t c9 hrc, ok_some]
        exact fin
      · simp (disch := omega) only [R_0_3, iz0, iz1, iz2, iz3, iz4, iz5, iz7, iz8, iz9, iz10, iz15, iz20, iz25, iz30, iz40, iz49, iz99, iz100, iz300, iz343, iz500, iz999, iz1000, iz1200, iz_add, iz_sub, iz_mul, iz_neg, it_le_t, it_le_f, it_lt_t, it_lt_f, it_eq_t, it_eq_f, bz0, bz1, ifg_T, or_true, true_or, if_true, if_false, Option.bind_some, Option.map_some, g_has_t c9 hrc, ok_some]
        exact fin
  · simp (disch := omega) only [R_0_3, iz0, iz1, iz2, iz3, iz4, iz5, iz7, iz8, iz9, iz10, iz15, iz20, iz25, iz30, iz40, iz49, iz99, iz100, iz300, iz343, iz500, iz999, iz1000, iz1200, iz_add, iz_sub, iz_mul, iz_neg, it_le_t, it_le_f, it_lt_t, it_lt_f, it_eq_t, it_eq_f, bz0, bz1, ifg_T, or_true, true_or, if_true, if_false, Option.bind_some, Option.map_some, g_has_f c9 hrc, ok_some]
    unfold f249 f249_23
    rw [ifg_pos O_101]
    simp (disch := omega) only [m37, iz0, iz1, iz2, iz3, iz4, iz5, iz7, iz8, iz9, iz10, iz15, iz20, iz25, iz30, iz40, iz49, iz99, iz100, iz300, iz343, iz500, iz999, iz1000, iz1200, iz_add, iz_sub, iz_mul, iz_neg, it_le_t, it_le_f, it_lt_t, it_lt_f, it_eq_t, it_eq_f, bz0, bz1, ifg_T, or_true, true_or, if_true, if_false, Option.bind_some, Option.map_some, g_in_f, ok_some, true_and]
    exact ⟨fr.rf _ _, h⟩
end DM
