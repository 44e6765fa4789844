/-! feed, end: bytes; order and shop: both sides -/
def TpB (s : xS) : Prop := ∀ T : Nat, T ≤ 1200 → s.1 1 1 = iz T → ∀ k, k < T → byR (s.1 2 k).toInt
theorem TpB.z {s : xS} (h : s.1 1 1 = iz 0) : TpB s := fun T hT h1 k hk => by
  have := (iz_eq (a := T) (b := 0) (by omega) (by omega) (by omega) (by omega)).mp (h1.symm.trans h)
  omega
theorem TpB.fr {F : Nat → Nat → Bool} {s s' : xS} (h : TpB s) (hf : fr F s s') (h1 : F 1 1 = false) (h2 : ∀ k, F 2 k = false) : TpB s' := fun T hT e k hk => by
  rw [hf.i _ _ (h2 k)]
  exact h T hT (by rw [← hf.i _ _ h1]; exact e) k hk
theorem bt_b (v : Int32) (j : Nat) : byR (bt v j).toInt := by
  have e : ∀ y : Int8, vp_nar .byte y.toInt32 = y.toInt32 := fun y => by
    show y.toInt32.toInt8.toInt32 = y.toInt32
    rw [Int8.toInt8_toInt32]
  unfold bt
  rw [e, Int8.toInt_toInt32]
  have h1 := Int8.toInt_lt ((v >>> (iz ((24 - 8 * j : Nat) : Int) &&& 31)).toInt8)
  have h2 := Int8.le_toInt ((v >>> (iz ((24 - 8 * j : Nat) : Int) &&& 31)).toInt8)
  unfold byR
  omega
section FB
variable {s : xS}
theorem apB {T : Nat} (h : ∀ k, k < T → byR (s.1 2 k).toInt) {v : Int32} {w : xS} (h3 : ∀ j, j < 4 → w.1 2 (T + j) = bt v j) (h4 : ∀ k, k < T → w.1 2 k = s.1 2 k) : ∀ k, k < T + 4 → byR (w.1 2 k).toInt := fun k hk => by
  by_cases q : k < T
  · rw [h4 k q]; exact h k q
  · obtain ⟨j, rfl⟩ : ∃ j, k = T + j := ⟨k - T, by omega⟩
    rw [h3 j (by omega)]
    exact bt_b v j
theorem c_feedB (h : TpI s) (hb : TpB s) (a b' c d e : Int32) : ok (f124 0 a b' c d e s) (fun r1 => TpB r1.1 ∧ ok (f282 101 a b' c d e r1.1) (fun r2 => fr FTm r1.1 r2.1)) := by
  obtain ⟨T, t1, t2, t3, t4, t5, t6⟩ := h
  have b0 := hb T t1 t2
  unfold f124
  rw [ifg_pos O_0, R_0_0]
  simp only [Option.bind_some, t2]
  by_cases g : T + 20 ≤ 1200
  · rw [iz20, iz_add, iz1200, it_le_t (by omega) (by omega) (by omega)]
    refine (cl_append t2 (by omega) a).bind (fun r1 ⟨a1, a2, a3, a4⟩ => ?_)
    refine (cl_append a2 (by omega) b').bind (fun r2 ⟨b1, b2, b3, b4⟩ => ?_)
    refine (cl_append b2 (by omega) c).bind (fun r3 ⟨c1, c2, c3, c4⟩ => ?_)
    refine (cl_append c2 (by omega) d).bind (fun r4 ⟨d1, d2, d3, d4⟩ => ?_)
    refine (cl_append d2 (by omega) e).bind (fun r5 ⟨e1, e2, e3, e4⟩ => ?_)
    rw [ok_some]
    have f5 : fr FTp s r5.1 := (((a1.tr b1).tr c1).tr d1).tr e1
    have fin := apB (apB (apB (apB (apB b0 a3 a4) b3 b4) c3 c4) d3 d4) e3 e4
    refine ⟨fun T' hT' h1 k hk => fin k ?_, (mo_feed (T := T) (by rw [f5.i _ _ rfl]; exact t3) g a b' c d e).mono (fun r6 hr => hr.1)⟩
    have := (iz_eq (a := T') (b := ((T + 4 + 4 + 4 + 4 + 4 : Nat) : Int)) (by omega) (by omega) (by omega) (by omega)).mp (h1.symm.trans e2)
    omega
  · rw [iz20, iz_add, iz1200, it_le_f (by omega) (by omega) (by omega), ok_some]
    refine ⟨hb, ?_⟩
    unfold f282
    rw [ifg_pos O_101]
    simp (disch := omega) only [t3, iz0, iz1, iz2, iz3, iz4, iz5, iz7, iz8, iz9, iz10, iz15, iz20, iz25, iz30, iz40, iz49, iz99, iz100, iz300, iz343, iz500, iz999, iz1000, iz1200, iz_add, iz_sub, iz_mul, iz_neg, it_le_t, it_le_f, it_lt_t, it_lt_f, it_eq_t, it_eq_f, bz0, bz1, ifg_T, or_true, true_or, if_true, if_false, Option.bind_some, Option.map_some, ok_some]
    exact fr.rf _ _
theorem c_endB (h : TpI s) (hb : TpB s) {k : Int} (k0 : -2147483648 ≤ k) (k1 : k ≤ 2147483647) : ok (f125 0 (iz k) s) (fun r1 => TpB r1.1 ∧ ok (f283 101 (iz k) r1.1) (fun r2 => fr FTm r1.1 r2.1)) := by
  obtain ⟨T, t1, t2, t3, t4, t5, t6⟩ := h
  unfold f125 f125_15
  rw [ifg_pos O_0]
  by_cases g : 0 ≤ k ∧ k ≤ T
  · obtain ⟨j, rfl⟩ : ∃ j : Nat, k = j := ⟨k.toNat, by omega⟩
    simp (disch := omega) only [R_0_0, t2, iz0, iz1, iz2, iz3, iz4, iz5, iz7, iz8, iz9, iz10, iz15, iz20, iz25, iz30, iz40, iz49, iz99, iz100, iz300, iz343, iz500, iz999, iz1000, iz1200, iz_add, iz_sub, iz_mul, iz_neg, it_le_t, it_le_f, it_lt_t, it_lt_f, it_eq_t, it_eq_f, bz0, bz1, ifg_T, or_true, true_or, if_true, if_false, Option.bind_some, Option.map_some, pI, ok_some]
    refine ⟨fun T' hT' h1 i hi => ?_, ?_⟩
    · dsimp only at h1
      rw [up_eq] at h1
      have := (iz_eq (a := T') (b := (j : Int)) (by omega) (by omega) (by omega) (by omega)).mp h1.symm
      dsimp only
      rw [up_id _ _ (by omega)]
      exact hb T t1 t2 i (by omega)
    · unfold f283
      rw [ifg_pos O_101]
      simp (disch := omega) only [t3, up_id, iz0, iz1, iz2, iz3, iz4, iz5, iz7, iz8, iz9, iz10, iz15, iz20, iz25, iz30, iz40, iz49, iz99, iz100, iz300, iz343, iz500, iz999, iz1000, iz1200, iz_add, iz_sub, iz_mul, iz_neg, it_le_t, it_le_f, it_lt_t, it_lt_f, it_eq_t, it_eq_f, bz0, bz1, ifg_T, or_true, true_or, if_true, if_false, Option.bind_some, Option.map_some, pI, ok_some]
      exact (fr.rf _ _).ui rfl
  · have fin : ok (f283 101 (iz k) s) (fun r2 => fr FTm s r2.1) := by
      unfold f283 f283_12
      rw [ifg_pos O_101]
      by_cases g0 : 0 ≤ k
      · simp (disch := omega) only [t3, iz0, iz1, iz2, iz3, iz4, iz5, iz7, iz8, iz9, iz10, iz15, iz20, iz25, iz30, iz40, iz49, iz99, iz100, iz300, iz343, iz500, iz999, iz1000, iz1200, iz_add, iz_sub, iz_mul, iz_neg, it_le_t, it_le_f, it_lt_t, it_lt_f, it_eq_t, it_eq_f, bz0, bz1, ifg_T, or_true, true_or, if_true, if_false, Option.bind_some, Option.map_some, ok_some]
        exact fr.rf _ _
      · simp (disch := omega) only [iz0, iz1, iz2, iz3, iz4, iz5, iz7, iz8, iz9, iz10, iz15, iz20, iz25, iz30, iz40, iz49, iz99, iz100, iz300, iz343, iz500, iz999, iz1000, iz1200, iz_add, iz_sub, iz_mul, iz_neg, it_le_t, it_le_f, it_lt_t, it_lt_f, it_eq_t, it_eq_f, bz0, bz1, ifg_T, or_true, true_or, if_true, if_false, Option.bind_some, Option.map_some, ok_some]
        exact fr.rf _ _
    by_cases g0 : 0 ≤ k
    · simp (disch := omega) only [R_0_0, t2, iz0, iz1, iz2, iz3, iz4, iz5, iz7, iz8, iz9, iz10, iz15, iz20, iz25, iz30, iz40, iz49, iz99, iz100, iz300, iz343, iz500, iz999, iz1000, iz1200, iz_add, iz_sub, iz_mul, iz_neg, it_le_t, it_le_f, it_lt_t, it_lt_f, it_eq_t, it_eq_f, bz0, bz1, ifg_T, or_true, true_or, if_true, if_false, Option.bind_some, Option.map_some, ok_some]
      exact ⟨hb, fin⟩
    · simp (disch := omega) only [iz0, iz1, iz2, iz3, iz4, iz5, iz7, iz8, iz9, iz10, iz15, iz20, iz25, iz30, iz40, iz49, iz99, iz100, iz300, iz343, iz500, iz999, iz1000, iz1200, iz_add, iz_sub, iz_mul, iz_neg, it_le_t, it_le_f, it_lt_t, it_lt_f, it_eq_t, it_eq_f, bz0, bz1, ifg_T, or_true, true_or, if_true, if_false, Option.bind_some, Option.map_some, ok_some]
      exact ⟨hb, fin⟩
end FB
def FOf (id k : Nat) : Bool := FCu id k || FMz id k
def FOs (id k : Nat) : Bool := FCo id k || FMq id k
section OB
variable {s : xS} {b n pl : Nat} {red slip : Int} {x : sS} {W S : Nat → Int} {st : Int32} {rc : Nat} {Rs : Nat → Rn}
theorem tx_of (hT : TpI s) (hB : TpB s) : ∃ L : Nat, CTx s (fun k => (s.1 2 k).toInt) L ∧ s.1 101 2 = iz L ∧ (∀ k, k < L → s.1 102 k = iz (s.1 2 k).toInt ∧ byR (s.1 2 k).toInt) ∧ s.1 1 2 = s.1 101 4 ∧ s.1 1 3 = s.1 101 5 := by
  obtain ⟨T, t1, t2, t3, t4, t5, t6⟩ := hT
  exact ⟨T, ⟨t1, t2, fun k hk => ⟨(iz_self _).symm, hB T t1 t2 k hk⟩⟩, t3, fun k hk => ⟨by rw [iz_self]; exact (t4 k hk).symm, hB T t1 t2 k hk⟩, t5, t6⟩
theorem b_of (h : Core s b n pl red slip x W S st rc Rs) : b < 2 ∧ s.1 101 25 = iz b := ⟨h.2.1.1.2.1, iz_of h.2.1.1.1⟩
def OrP (s s' : xS) (b n pl : Nat) (red slip : Int) (x : sS) (W S : Nat → Int) (st : Int32) : Prop := s' = s ∨ (TpI s' ∧ s'.1 1 1 = iz 0 ∧ (fr FOf s s' ∨ (fr FOs s s' ∧ chg s' ∧ ∃ rc' Rs', Core s' b n pl red slip x W S st rc' Rs')))
theorem c_order (h : Core s b n pl red slip x W S st rc Rs) (hT : TpI s) (hB : TpB s) (hN : NmI s b pl) : ok (f127 0 s) (fun r1 => ok (f192 101 r1.1) (fun r2 => r2.2 = r1.2 ∧ OrP s r2.1 b n pl red slip x W S st)) := by
  obtain ⟨L, cx, m2, mb, e1, e2⟩ := tx_of hT hB
  have hL := cx.1
  obtain ⟨b2, h25⟩ := b_of h
  have v := h.2.2
  by_cases g : L ≤ 500
  · have cn : CNm s pl (fun p => s.2 4 p) := ⟨v.2.2.1, h.1.1, fun p hp => rfl⟩
    have mn : MNm s b pl (fun p => s.2 4 p) := ⟨b2, v.2.2.1, h25, h.2.1.2.1, fun p hp => (hN p hp).symm⟩
    refine (cl_order cx g cn).mono (fun r1 o1 => ?_)
    have both : ∀ F, fr F s r1.1 → (F 101 2 = false) → (∀ k, F 102 k = false) → F 101 25 = false → F 105 b = false → (∀ k, F 112 k = false) → ok (f192 101 r1.1) (mOrz r1.1 (pOr (fun k => (s.1 2 k).toInt) L (fun p => s.2 4 p) pl 10 0 R00 0)) := fun F hf w1 w2 w3 w4 w5 => mo_order g (by rw [hf.i _ _ w1]; exact m2) (fun k hk => by rw [hf.i _ _ (w2 k)]; exact mb k hk) (mn.fr hf w3 w4 (fun p _ => w5 _))
    obtain ⟨z1, o1⟩ := o1
    cases hp : pOr (fun k => (s.1 2 k).toInt) L (fun p => s.2 4 p) pl 10 0 R00 0 with
    | inl e =>
      rw [hp] at o1 both
      obtain ⟨f1, p1, p2, p3⟩ := o1
      refine (both _ f1 rfl (fun _ => rfl) rfl rfl (fun _ => rfl)).mono (fun r2 ⟨z2, f2, q1, q2, q3⟩ => ⟨by rw [q1, p1], Or.inr ⟨⟨0, by omega, ?_, z2, fun k hk => by omega, ?_, ?_⟩, ?_, Or.inl ?_⟩⟩)
      · rw [f2.i _ _ rfl]; exact z1
      · rw [f2.i _ _ rfl, q2]; exact p2
      · rw [f2.i _ _ rfl, q3]; exact p3
      · rw [f2.i _ _ rfl]; exact z1
      · exact (f1.mono (fun id k hk => by unfold FOf; rw [hk]; rfl)).tr (f2.mono (fun id k hk => by unfold FOf; rw [hk, Bool.or_true]))
    | inr a =>
      have hq := pOr_q (B := fun k => (s.1 2 k).toInt) (nm := fun p => s.2 4 p) (pl := pl) (L := L) ⟨v.1, v.2.1⟩ 10 0 R00 0 (Nat.zero_le L) (fun i hi => by omega) a.1 a.2 hp
      rw [hp] at o1 both
      obtain ⟨f1, p1, p2, p3, p4, p5, p6, p7⟩ := o1
      refine (both _ f1 rfl (fun _ => rfl) rfl rfl (fun _ => rfl)).mono (fun r2 ⟨z2, f2, q1, q2, q3, q4, q5⟩ => ?_)
      have ff : fr FOs s r2.1 := (f1.mono (fun id k hk => by unfold FOs; rw [hk]; rfl)).tr (f2.mono (fun id k hk => by unfold FOs; rw [hk, Bool.or_true]))
      refine ⟨by rw [q1, p1], Or.inr ⟨⟨0, by omega, ?_, z2, fun k hk => by omega, ?_, ?_⟩, ?_, Or.inr ⟨ff, p7.fr f2 rfl rfl rfl rfl, a.1.1, a.1.2, ?_, ?_, ?_⟩⟩⟩
      · rw [f2.i _ _ rfl]; exact z1
      · rw [f2.i _ _ rfl, q2]; exact p3
      · rw [f2.i _ _ rfl, q3]; exact p4
      · rw [f2.i _ _ rfl]; exact z1
      · obtain ⟨a1, a2, a3, a4, a5, a6, a7, a8, a9⟩ := h.1
        refine ⟨by rw [ff.i _ _ rfl]; exact a1, by rw [ff.i _ _ rfl]; exact a2, by rw [ff.i _ _ rfl]; exact a3, by rw [ff.i _ _ rfl]; exact a4, a5.fr ff (fun _ => rfl) (fun _ => rfl) (fun _ => rfl), ⟨fun k hk => by rw [ff.i _ _ rfl]; exact a6.1 k hk, by rw [ff.i _ _ rfl]; exact a6.2.1, by rw [ff.i _ _ rfl]; exact a6.2.2⟩, by rw [ff.i _ _ rfl]; exact a7, by rw [f2.i _ _ rfl]; exact p5, fun r hr => (p6 r hr).fr f2 (fun k => ?_)⟩
        have : 11 + r = 11 ∨ 11 + r = 12 ∨ 11 + r = 13 ∨ 11 + r = 14 ∨ 11 + r = 15 ∨ 11 + r = 16 ∨ 11 + r = 17 ∨ 11 + r = 18 ∨ 11 + r = 19 ∨ 11 + r = 20 := by omega
        rcases this with e | e | e | e | e | e | e | e | e | e <;> rw [e] <;> rfl
      · obtain ⟨a1, a2, a3, a4, a5, a6, a7, a8, a9, a10, a11⟩ := h.2.1
        refine ⟨a1.fr ff rfl (fun _ => rfl), by rw [ff.i _ _ rfl]; exact a2, by rw [ff.i _ _ rfl]; exact a3, by rw [ff.i _ _ rfl]; exact a4, ⟨fun k hk => ⟨fun u => by rw [ff.i _ _ rfl]; exact (a5.1 k hk).1 u, by rw [ff.i _ _ rfl]; exact (a5.1 k hk).2⟩, ?_⟩, ⟨fun k hk => by rw [ff.i _ _ rfl]; exact a6.1 k hk, by rw [ff.i _ _ rfl]; exact a6.2.1, by rw [ff.i _ _ rfl]; exact a6.2.2⟩, by rw [ff.i _ _ rfl]; exact a7, q4, q5, fun c hc => by rw [ff.i _ _ rfl]; exact a10 c hc, by rw [ff.i _ _ rfl]; exact a11⟩
        unfold MF
        rw [ff.ci 115 (fun _ => rfl), ff.ci 116 (fun _ => rfl), ff.ci 117 (fun _ => rfl)]
        exact a5.2
      · obtain ⟨w1, w2, w3, w4, w5, w6, w7, w8, w9, w10, w11⟩ := v
        exact ⟨w1, w2, w3, w4, w5, w6, w7, w8, w9, p2, hq.2⟩
  · unfold f127
    rw [ifg_pos O_0]
    simp only [R_0_0, Option.bind_some]
    rw [cx.2.1, iz500, it_le_f (by omega) (by omega) (by omega), ok_some]
    unfold f192
    rw [ifg_pos O_101, m2, iz500, it_le_f (by omega) (by omega) (by omega), ok_some]
    exact ⟨rfl, Or.inl rfl⟩
end OB
def FSf (b id k : Nat) : Bool := FCt id k || FMf (1 - b) id k
def FSs (b id k : Nat) : Bool := FCs id k || FMh (1 - b) id k
section SB
variable {s : xS} {b n pl : Nat} {red slip : Int} {x : sS} {W S : Nat → Int} {st : Int32} {rc : Nat} {Rs : Nat → Rn}
def ShP (s s' : xS) (b : Nat) : Prop := TpI s' ∧ s'.1 1 1 = iz 0 ∧ S8 s' ∧ (fr (FSf b) s s' ∨ (fr (FSs b) s s' ∧ chg s' ∧ ∃ (n' pl' : Nat) (red' slip' : Int) (x' : sS) (W' S' : Nat → Int) (st' : Int32) (Rs' : Nat → Rn), Core s' (1 - b) n' pl' red' slip' x' W' S' st' 0 Rs' ∧ NmI s' (1 - b) pl' ∧ (∀ q, q < 3 → s'.1 38 q = iz 0 ∧ s'.1 129 q = iz (-1)) ∧ s'.1 72 8 = iz 0 ∧ s'.1 101 71 = iz 0))
theorem c_shop (h : Core s b n pl red slip x W S st rc Rs) (hT : TpI s) (hB : TpB s) (h8 : S8 s) : ok (f126 0 s) (fun r1 => ok (f187 101 r1.1) (fun r2 => r2.2 = r1.2 ∧ ShP s r2.1 b)) := by
  obtain ⟨L, cx, m2, mb, e1, e2⟩ := tx_of hT hB
  have hL := cx.1
  obtain ⟨b2, h25⟩ := b_of h
  have hs1 : ∀ k, k < 100 → s.1 8 k = iz (s.1 8 k).toInt := fun k hk => (iz_self _).symm
  have hs2 : ∀ k, k < 100 → -99 ≤ (s.1 8 k).toInt ∧ (s.1 8 k).toInt ≤ 99 := fun k hk => by
    obtain ⟨z, z1, z2⟩ := h8 k hk
    rw [z1, iz_t (by omega) (by omega)]
    exact z2
  refine (cl_shop (hs := fun k => (s.1 8 k).toInt) cx hs1 hs2).mono (fun r1 o1 => ?_)
  have both : ∀ F, fr F s r1.1 → (F 101 2 = false) → (∀ k, F 102 k = false) → F 101 25 = false → ok (f187 101 r1.1) (mShz r1.1 (1 - b) (pSh (fun k => (s.1 2 k).toInt) L 1201 (Sh0 (fun k => (s.1 8 k).toInt)) 0)) := fun F hf w1 w2 w3 => mo_shop b2 rfl hL (by rw [hf.i _ _ w1]; exact m2) (by rw [hf.i _ _ w3]; exact h25) (fun k hk => by rw [hf.i _ _ (w2 k)]; exact mb k hk) hs2
  obtain ⟨z1, s8, o1⟩ := o1
  have F1 : ∀ (rb k : Nat), FMf rb 1 k = false ∧ FMh rb 1 k = false ∧ FMf rb 8 k = false ∧ FMh rb 8 k = false := fun rb k => ⟨rfl, rfl, rfl, rfl⟩
  cases hp : pSh (fun k => (s.1 2 k).toInt) L 1201 (Sh0 (fun k => (s.1 8 k).toInt)) 0 with
  | inl e =>
    rw [hp] at o1 both
    obtain ⟨f1, p1, p2, p3⟩ := o1
    refine (both _ f1 rfl (fun _ => rfl) rfl).mono (fun r2 ⟨z2, f2, q1, q2, q3⟩ => ⟨by rw [q1, p1], ⟨0, by omega, ?_, z2, fun k hk => by omega, ?_, ?_⟩, ?_, ?_, Or.inl ?_⟩)
    · rw [f2.i _ _ (F1 _ _).1]; exact z1
    · rw [f2.i _ _ (F1 _ _).1, q2]; exact p2
    · rw [f2.i _ _ (F1 _ _).1, q3]; exact p3
    · rw [f2.i _ _ (F1 _ _).1]; exact z1
    · exact s8.fr f2 (fun k => (F1 _ k).2.2.1)
    · exact (f1.mono (fun id k hk => by unfold FSf; rw [hk]; rfl)).tr (f2.mono (fun id k hk => by unfold FSf; rw [hk, Bool.or_true]))
  | inr a =>
    rw [hp] at o1 both
    obtain ⟨f1, p1, p2, p3, ⟨c1, c2, c3, c4, c5, c6, c7, c8, c9, c10, c11, c12⟩, V⟩ := o1
    refine (both _ f1 rfl (fun _ => rfl) rfl).mono (fun r2 ⟨z2, f2, q1, q2, q3, ⟨d1, ⟨d2, d3, d4, d5, d6, d7, d8, d9, d10, d11, d12⟩, d13, d14, d15, d16, d17, d18, d19, d20⟩, _⟩ => ?_)
    have ff : fr (FSs b) s r2.1 := (f1.mono (fun id k hk => by unfold FSs; rw [hk]; rfl)).tr (f2.mono (fun id k hk => by unfold FSs; rw [hk, Bool.or_true]))
    obtain ⟨v1, v2, v3, v4, v5, v6, v7, v8⟩ := V
    have x5 : r2.1.1 33 5 = x.2.2 := by rw [ff.i _ _ rfl]; exact h.1.2.2.2.2.2.1.2.2
    have y5 : r2.1.1 101 29 = x.2.2 := by rw [ff.i _ _ rfl]; exact h.2.1.2.2.2.2.2.1.2.2
    refine ⟨by rw [q1, p1], ⟨0, by omega, ?_, z2, fun k hk => by omega, ?_, ?_⟩, ?_, ?_, Or.inr ⟨ff, c12.fr f2 rfl rfl rfl rfl, a.1.2.1, a.1.1, a.1.2.2.1, a.1.2.2.2.1, (a.1.2.2.2.2.2.2.2.2, iz 0, x.2.2), (fun _ => 0), (fun _ => 0), iz 0, R00, ⟨⟨?_, ?_, ?_, ?_, ?_, ⟨?_, ?_, x5⟩, ?_, ?_, fun r hr => absurd hr (Nat.not_lt_zero r)⟩, ⟨⟨?_, ?_, d5, ?_, v2, v3⟩, d4, d6, d7, ⟨fun k hk => ⟨d13 k, d14 k hk⟩, fun p hp => Or.inl ⟨(d15 p hp).trans iz0.symm, fun _ _ => rfl⟩⟩, ⟨d13, d17, y5⟩, d16, d18, fun r hr => absurd hr (Nat.not_lt_zero r), fun c hc => ?_, ?_⟩, ⟨v2, v3, v1, v4, v5, v6, v7, ?_, ?_, by omega, fun r hr => absurd hr (Nat.not_lt_zero r)⟩⟩, ?_, fun q hq => ⟨?_, d20 q hq⟩, ?_, d19⟩⟩
    · rw [f2.i _ _ (F1 _ _).2.1]; exact z1
    · rw [f2.i _ _ (F1 _ _).2.1, q2]; exact p2
    · rw [f2.i _ _ (F1 _ _).2.1, q3]; exact p3
    · rw [f2.i _ _ (F1 _ _).2.1]; exact z1
    · exact s8.fr f2 (fun k => (F1 _ k).2.2.2)
    · rw [f2.i _ _ rfl]; exact c1
    · rw [f2.i _ _ rfl]; exact c2
    · rw [f2.i _ _ rfl]; exact c3
    · rw [f2.i _ _ rfl]; exact c4
    · intro k hk
      rw [f2.i _ _ rfl, f2.i _ _ rfl, f2.i _ _ rfl]
      exact c6 k hk
    · intro k hk
      rw [f2.i _ _ rfl]
      exact (c6 k hk).1
    · rw [f2.i _ _ rfl]; exact c8
    · rw [f2.i _ _ rfl]; exact c7
    · rw [f2.i _ _ rfl]; exact c9
    · rw [d1, iz_t (by omega) (by omega)]
    · omega
    · rw [iz_t (by omega) (by omega)]
    · rw [ff.i 114 (100 + c) (by unfold FSs FMh FMe; rw [ble_f (show 99 < 100 + c by omega)]; rfl)]
      exact h.2.1.2.2.2.2.2.2.2.2.2.1 c hc
    · rw [ff.i _ _ rfl]
      exact h.2.1.2.2.2.2.2.2.2.2.2.2
    · intro k hk
      have := v8 k hk
      dsimp only
      omega
    · intro k hk
      exact ⟨Int.le_refl 0, (show (0 : Int) ≤ 99 by decide), Int.le_refl 0, (show (0 : Int) ≤ 72 by decide)⟩
    · intro p hp
      rw [d11 p hp, f2.l _ _ rfl]
      exact c5 p hp
    · rw [f2.i _ _ rfl]; exact c10 q hq
    · rw [f2.i _ _ rfl]; exact c11
end SB
