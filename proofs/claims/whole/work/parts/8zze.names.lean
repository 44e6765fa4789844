/-! names, rounds: pure; at the class -/
theorem pBind_assoc {α β γ : Type} (p : PR α) (f : α → Nat → PR β) (g : β → Nat → PR γ) : pBind (pBind p f) g = pBind p (fun a q => pBind (f a q) g) := by
  cases p with
  | inl e => rfl
  | inr x => rfl
def fndF (nm : Nat → Int64) (w : Int64) : Nat → Nat → Int
  | 0, _ => -1
  | f + 1, p => if nm p = w then (p : Int) else fndF nm w f (p + 1)
def fnd (nm : Nat → Int64) (w : Int64) (pl : Nat) : Int := fndF nm w pl 0
theorem fndF_b (nm : Nat → Int64) (w : Int64) : ∀ f p, fndF nm w f p = -1 ∨ ((p : Int) ≤ fndF nm w f p ∧ fndF nm w f p < p + f)
  | 0, p => Or.inl rfl
  | f + 1, p => by
    rw [fndF]
    by_cases h : nm p = w
    · rw [if_pos h]; omega
    · rw [if_neg h]
      have := fndF_b nm w f (p + 1)
      omega
theorem fnd_b (nm : Nat → Int64) (w : Int64) (pl : Nat) : fnd nm w pl = -1 ∨ (0 ≤ fnd nm w pl ∧ fnd nm w pl < pl) := by
  have := fndF_b nm w pl 0
  unfold fnd
  omega
theorem fndF_congr {nm nm' : Nat → Int64} (w : Int64) : ∀ f p, (∀ i, p ≤ i → i < p + f → nm i = nm' i) → fndF nm w f p = fndF nm' w f p
  | 0, p, _ => rfl
  | f + 1, p, h => by
    rw [fndF, fndF, h p (by omega) (by omega), fndF_congr w f (p + 1) (fun i h1 h2 => h i (by omega) (by omega))]
theorem fnd_congr {nm nm' : Nat → Int64} (w : Int64) {pl : Nat} (h : ∀ i, i < pl → nm i = nm' i) : fnd nm w pl = fnd nm' w pl := fndF_congr w pl 0 (fun i _ h2 => h i (by omega))
theorem ok_det {α : Type} {p : Option α} {a : α} (h : ok p (fun r => r = a)) : p = some a := by
  obtain ⟨r, h1, h2⟩ := h
  rw [h1, h2]
section FN
variable {s : xS} {pl : Nat} {nm : Nat → Int64}
theorem ct_fnd {x0 a : Nat} (hO : oK x0 7 = true) (hR : hk_R x0 0 = some a) (hA : ∀ (s : xS) (i : Int32), aL s a i = if xm_in i 4 = true then some (s.2 a i.toNatClampNeg) else none) (h2 : s.1 x0 2 = iz pl) (hpl : pl ≤ 4) (hn : ∀ p, p < pl → s.2 a p = nm p) (w : Int64) : f70 x0 w s = some (s, iz (fnd nm w pl)) := by
  refine ok_det ?_
  unfold f70
  rw [ifg_pos hO]
  refine forz (fun i t => t = s ∧ fndF nm w (pl - i) i = fnd nm w pl) 0 pl (by omega) (by omega) ⟨rfl, rfl⟩ (fun i t _ hi ⟨e1, e2⟩ => ?_) (fun t ⟨e1, e2⟩ => ?_)
  · subst e1
    rw [show pl - i = (pl - (i + 1)) + 1 by omega, fndF] at e2
    dsimp only
    unfold f70_2
    rw [h2, it_le_f (by omega) (by omega) (by omega)]
    simp (disch := omega) only [hR, hA, Option.bind_some, iz_in, iz_n, nat_toNat, if_true, hn i hi, lg_ite]
    by_cases g : nm i = w
    · rw [if_pos g] at e2 ⊢
      rw [ok_map, ok_some, lp_r, ← e2]
    · rw [if_neg g] at e2 ⊢
      rw [ok_some, lp_l, iz1, iz_add]
      exact ⟨rfl, rfl, e2⟩
  · subst e1
    dsimp only
    unfold f70_2
    rw [h2, it_le_t (by omega) (by omega) (by omega), ok_map, ok_some, lp_r, ← e2, Nat.sub_self, fndF, izm1]
theorem ct_find3 (h2 : s.1 3 2 = iz pl) (hpl : pl ≤ 4) (hn : ∀ p, p < pl → s.2 4 p = nm p) (w : Int64) : f70 3 w s = some (s, iz (fnd nm w pl)) := ct_fnd O_3 R_3_0 A_4 h2 hpl hn w
theorem ct_find6 (h2 : s.1 6 2 = iz pl) (hpl : pl ≤ 4) (hn : ∀ p, p < pl → s.2 7 p = nm p) (w : Int64) : f70 6 w s = some (s, iz (fnd nm w pl)) := ct_fnd O_6 R_6_0 A_7 h2 hpl hn w
theorem mt_here {b k8 : Nat} (hb : b < 2) (h5 : s.1 105 b = iz pl) (hpl : pl ≤ 4) (hn : ∀ p, p < pl → s.2 112 (4 * b + p) = nm p) (h8 : s.1 101 8 = iz k8) (hk : k8 ≤ 5) : f189 101 (iz b) s = some (s, iz (if k8 = 2 then fnd nm (s.2 101 10) pl else -1)) := by
  refine ok_det ?_
  unfold f189
  rw [ifg_pos O_101]
  refine forz (fun i t => t = s ∧ (k8 = 2 → fndF nm (s.2 101 10) (pl - i) i = fnd nm (s.2 101 10) pl)) 0 pl (by omega) (by omega) ⟨rfl, fun _ => rfl⟩ (fun i t _ hi ⟨e1, e2⟩ => ?_) (fun t ⟨e1, e2⟩ => ?_)
  · subst e1
    dsimp only
    unfold f189_2 f189_40
    simp (disch := omega) only [R_101_12, A_105, Option.bind_some, iz_in, iz_n, nat_toNat, if_true, h5]
    rw [it_le_f (by omega) (by omega) (by omega), h8, iz2, show ((2 : Int)) = ((2 : Nat) : Int) from rfl, it_nat (by omega) (by omega)]
    by_cases g : k8 = 2
    · have e2 := e2 g
      rw [show pl - i = (pl - (i + 1)) + 1 by omega, fndF] at e2
      rw [if_pos g]
      have en : ((4 : Int) * b + i).toNat = 4 * b + i := by omega
      simp (disch := omega) only [R_101_19, A_112, Option.bind_some, iz4, iz_mul, iz_add, iz_in, iz_n, nat_toNat, en, if_true, hn i hi, lg_ite]
      by_cases g2 : nm i = t.2 101 10
      · rw [if_pos g2] at e2 ⊢
        rw [ok_map, ok_some, lp_r, if_pos g, ← e2]
      · rw [if_neg g2] at e2 ⊢
        rw [ok_some, lp_l, iz1, iz_add]
        exact ⟨rfl, rfl, fun _ => e2⟩
    · rw [if_neg g, ok_some, lp_l, iz1, iz_add]
      exact ⟨rfl, rfl, fun r => absurd r g⟩
  · subst e1
    dsimp only
    unfold f189_2
    simp (disch := omega) only [R_101_12, A_105, Option.bind_some, iz_in, iz_n, nat_toNat, if_true, h5]
    rw [it_le_t (by omega) (by omega) (by omega), ok_map, ok_some, lp_r, izm1]
    by_cases g : k8 = 2
    · rw [if_pos g, ← e2 g, Nat.sub_self, fndF]
    · rw [if_neg g]
end FN
section GP
variable (B : Nat → Int) (L : Nat) (nm : Nat → Int64) (pl : Nat)
/-- a plate by its name -/
def pPl (bad : Nat → Bool) (q : Nat) : PR Nat := pBind (pNm B L q) (fun a q' => if fnd nm a.1 pl < 0 ∨ bad (fnd nm a.1 pl).toNat = true then .inl (5, a.2) else .inr ((fnd nm a.1 pl).toNat, q'))
def pR1 (q : Nat) : PR (Nat × Nat) := pBind (pWd B L 7102841 q) (fun _ q => pBind (pPl B L nm pl (fun _ => false) q) (fun u q => pBind (pWd B L 28526 q) (fun _ q => pBind (pPl B L nm pl (fun p => p == u) q) (fun l q => .inr ((u, l), q)))))
def pR2 (q : Nat) : PR (Nat × Int × Int) := pBind (pWd B L 1953854062 q) (fun _ q => pBind (pNu B L false 0 3 q) (fun t q => if (tok B L q).1 = 1 ∧ tkW B L q = 25209 then pBind (pNu B L true (-1) 1 (tok B L q).2.2) (fun a q => pBind (pNu B L true (-1) 1 q) (fun c q => .inr ((t.toNat, a, c), q))) else .inr ((t.toNat, 0, 0), q)))
def pR3 (u l q : Nat) : PR (Nat × Int) := pBind (pWd B L 126870957944933 q) (fun _ q => pBind (pPl B L nm pl (fun p => p != u && p != l) q) (fun sc q => pBind (pWd B L 1684366704 q) (fun _ q => pBind (pNu B L false 1 9 q) (fun d q => pBind (pSt B L q) (fun _ q => .inr ((sc, d), q))))))
def pRd (q : Nat) : PR Rn := pBind (pR1 B L nm pl q) (fun ul q => pBind (pR2 B L q) (fun t q => pBind (pR3 B L nm pl ul.1 ul.2 q) (fun sd q => .inr ((ul.1, ul.2, t.1, t.2.1, t.2.2, sd.1, sd.2), q))))
/-- an order: rounds as a row -/
def pOr : Nat → Nat → (Nat → Rn) → Nat → PR (Nat × (Nat → Rn))
  | 0, c, Rs, q => if (tok B L q).1 = 0 then .inr ((c, Rs), q) else .inl (pBad B L q)
  | f + 1, c, Rs, q => if (tok B L q).1 = 0 then .inr ((c, Rs), q) else pBind (pRd B L nm pl q) (fun R q' => pOr f (c + 1) (fun i => if i = c then R else Rs i) q')
end GP
section GQ
variable {B : Nat → Int} {L : Nat} {nm : Nat → Int64} {pl q : Nat}
theorem pPl_q {bad : Nat → Bool} (hq : q ≤ L) {u q' : Nat} (h : pPl B L nm pl bad q = .inr (u, q')) : q < q' ∧ q' ≤ L ∧ u < pl ∧ bad u = false := by
  unfold pPl at h
  obtain ⟨a, q1, h1, h2⟩ := pBind_inr h
  have h3 := pNm_q hq h1
  split at h2
  · cases h2
  · rename_i g
    cases h2
    have := fnd_b nm a.1 pl
    refine ⟨h3.1, h3.2, by omega, ?_⟩
    cases hb : bad (fnd nm a.1 pl).toNat with
    | false => rfl
    | true => exact absurd (Or.inr hb) g
theorem pRd_q (hq : q ≤ L) {R : Rn} {q' n : Nat} (hn : 3 ≤ n ∧ n ≤ 5) (h : pRd B L nm pl q = .inr (R, q')) : q < q' ∧ q' ≤ L ∧ Rv pl n R := by
  unfold pRd at h
  obtain ⟨ul, q1, h1, h⟩ := pBind_inr h
  obtain ⟨t, q2, h2, h⟩ := pBind_inr h
  obtain ⟨sd, q3, h3, h⟩ := pBind_inr h
  cases h
  have k1 : q < q1 ∧ q1 ≤ L ∧ ul.1 < pl ∧ ul.2 < pl ∧ ul.1 ≠ ul.2 := by
    unfold pR1 at h1
    obtain ⟨_, a1, e1, h1⟩ := pBind_inr h1
    obtain ⟨u, a2, e2, h1⟩ := pBind_inr h1
    obtain ⟨_, a3, e3, h1⟩ := pBind_inr h1
    obtain ⟨l, a4, e4, h1⟩ := pBind_inr h1
    cases h1
    have b1 := pWd_q hq e1
    have b2 := pPl_q b1.2 e2
    have b3 := pWd_q b2.2.1 e3
    have b4 := pPl_q b3.2 e4
    dsimp only at b1 b3 ⊢
    refine ⟨by omega, b4.2.1, b2.2.2.1, b4.2.2.1, fun r => ?_⟩
    have := b4.2.2.2
    rw [← r] at this
    simp at this
  have k2 : q1 < q2 ∧ q2 ≤ L ∧ t.1 ≤ 3 ∧ -1 ≤ t.2.1 ∧ t.2.1 ≤ 1 ∧ -1 ≤ t.2.2 ∧ t.2.2 ≤ 1 := by
    unfold pR2 at h2
    obtain ⟨_, a1, e1, h2⟩ := pBind_inr h2
    obtain ⟨tt, a2, e2, h2⟩ := pBind_inr h2
    have b1 := pWd_q k1.2.1 e1
    have b2 := pNu_q b1.2 e2
    dsimp only at b1 b2
    split at h2
    · obtain ⟨a, a3, e3, h2⟩ := pBind_inr h2
      obtain ⟨c, a4, e4, h2⟩ := pBind_inr h2
      cases h2
      have b5 := tok_le (B := B) (q := a2) b2.2.1
      have b3 := pNu_q b5.2.2.1 e3
      have b4 := pNu_q b3.2.1 e4
      dsimp only at b3 b4 ⊢
      omega
    · cases h2
      dsimp only
      omega
  have k3 : q2 < q' ∧ q' ≤ L ∧ (sd.1 = ul.1 ∨ sd.1 = ul.2) ∧ 1 ≤ sd.2 ∧ sd.2 ≤ 9 := by
    unfold pR3 at h3
    obtain ⟨_, a1, e1, h3⟩ := pBind_inr h3
    obtain ⟨sc, a2, e2, h3⟩ := pBind_inr h3
    obtain ⟨_, a3, e3, h3⟩ := pBind_inr h3
    obtain ⟨d, a4, e4, h3⟩ := pBind_inr h3
    obtain ⟨_, a5, e5, h3⟩ := pBind_inr h3
    cases h3
    have b1 := pWd_q k2.2.1 e1
    have b2 := pPl_q b1.2 e2
    have b3 := pWd_q b2.2.1 e3
    have b4 := pNu_q b3.2 e4
    have b5 := pSt_q b4.2.1 e5
    dsimp only at b1 b3 b4 b5 ⊢
    have b6 := b2.2.2.2
    refine ⟨by omega, b5.2, ?_, b4.2.2⟩
    by_cases g1 : sc = ul.1
    · exact Or.inl g1
    · by_cases g2 : sc = ul.2
      · exact Or.inr g2
      · simp [g1, g2] at b6
  exact ⟨by omega, k3.2.1, k1.2.2.1, k1.2.2.2.1, k1.2.2.2.2, ⟨hn.1, hn.2, k2.2.2.1, k2.2.2.2⟩, k3.2.2.1, k3.2.2.2⟩
end GQ
def FCp (id k : Nat) : Bool := (id == 1 && Nat.ble 2 k) || id == 6 || id == 7 || id == 8 || (Nat.ble 21 id && Nat.ble id 32)
theorem FTt_p (id k : Nat) (h : FTt id k = true) : FCp id k = true := by
  unfold FTt at h
  unfold FCp
  rw [h]
  rfl
theorem FCp_x {x0 : Nat} (h1 : 21 ≤ x0) (h2 : x0 ≤ 32) (k : Nat) : FCp x0 k = true := by
  unfold FCp
  rw [Nat.ble_eq_true_of_le h1, Nat.ble_eq_true_of_le h2]
  simp
/-- the tape and one thing more -/
def FRx (x0 id k : Nat) : Bool := (id == 1 && Nat.ble 2 k) || id == x0
theorem FTt_r (x0 id k : Nat) (h : FTt id k = true) : FRx x0 id k = true := by
  unfold FTt at h
  unfold FRx
  rw [h]
  rfl
theorem FRx_x (x0 k : Nat) : FRx x0 x0 k = true := by
  unfold FRx
  rw [beq_self_eq_true x0, Bool.or_true]
theorem FTt_x {x0 : Nat} (h : x0 ≠ 1) (k : Nat) : FTt x0 k = false := by
  unfold FTt
  rw [show (x0 == 1) = false from beq_false_of_ne h]
  rfl
theorem FX_1 {x0 y : Nat} (h : x0 ≠ y) (k : Nat) : (fun id (_ : Nat) => id == x0) y k = false := beq_false_of_ne (fun e => h e.symm)
section CRd
variable {s0 s : xS} {B : Nat → Int} {L q pl : Nat} {nm : Nat → Int64}
/-- the class's shop by name -/
def CNm (s : xS) (pl : Nat) (nm : Nat → Int64) : Prop := pl ≤ 4 ∧ s.1 3 2 = iz pl ∧ ∀ p, p < pl → s.2 4 p = nm p
theorem CNm.fr {F : Nat → Nat → Bool} {s' : xS} (h : CNm s pl nm) (hf : fr F s s') (h1 : F 3 2 = false) (h2 : ∀ k, F 4 k = false) : CNm s' pl nm := ⟨h.1, by rw [hf.i _ _ h1]; exact h.2.1, fun p hp => by rw [hf.l _ _ (h2 p)]; exact h.2.2 p hp⟩
theorem CSt.ux {x0 k : Nat} {v : Int32} (h : CSt s B L q) (h1 : x0 ≠ 1) (h2 : x0 ≠ 2) : CSt (xm_up s.1 x0 k v, s.2) B L q := h.fr (F := fun id _ => id == x0) ((fr.rf _ _).ui (beq_self_eq_true x0)) (FX_1 h1) (FX_1 h2)
theorem ct_failR {α : Type} {R : xS → Prop} {p : PR α} {J : α → xS → Prop} {a c : Nat} {z : Int32} (hz : z = iz c) (hp : p = .inl (a, c)) (hR : R (xm_up (xm_up s.1 1 2 (iz a)) 1 3 (iz c), s.2)) : ok ((f79 1 (iz a) z s).bind (fun z1 => ifg (z1.2 = 0 ∨ z1.2 = 1) <| some (z1.1, z1.2))) (fun r' => R r'.1 ∧ cOut B L p J r') := by
  rw [hz, ct_fail]
  simp only [Option.bind_some]
  rw [cd0 (Or.inl rfl), ok_some, hp]
  exact ⟨hR, rfl, by dsimp only; rw [up_ix _ _ (by omega), up_eq], by dsimp only; rw [up_eq]⟩
theorem ct_plates {x0 : Nat} (x1 : 23 ≤ x0) (x2 : x0 ≤ 32) (hO : oK x0 6 = true) (h : CSt s B L q) (hN : CNm s pl nm) : ok (f62 x0 1 3 s) (fun r => fr (FRx x0) s r.1 ∧ cOut B L (pR1 B L nm pl q) (fun a w => w.1 x0 0 = iz a.1 ∧ w.1 x0 1 = iz a.2) r) := by
  have hx := FRx_x x0
  have hpl := hN.1
  unfold f62 f62_17 f62_66 f62_99 pR1
  rw [ifg_pos hO, ifg_pos O_1, ifg_pos O_3]
  refine cbind (R := fun w => fr (FRx x0) s w) (ct_word h _) (fun w hw => hw.mono (FTt_r x0)) (fun e r hr h0 h1 => by rw [ok_some]; exact ⟨hr, iz0, h1⟩) (fun _ q1 r1 f1 _ c1 _ => ?_)
  have g1 := f1.mono (FTt_r x0)
  have hN1 := hN.fr f1 rfl (fun _ => rfl)
  rw [pPl, pBind_assoc]
  refine cbind (R := fun w => fr (FRx x0) s w) (ct_name c1) (fun w hw => g1.tr (hw.mono (FTt_r x0))) (fun e r hr h0 h1 => by rw [ok_some]; exact ⟨hr, iz0, h1⟩) (fun a q2 r2 f2 _ c2 ⟨n1, n2⟩ => ?_)
  have g2 := g1.tr (f2.mono (FTt_r x0))
  have hN2 := hN1.fr f2 rfl (fun _ => rfl)
  have fb := fnd_b nm a.1 pl
  rw [n1, ct_find3 hN2.2.1 hpl hN2.2.2]
  simp only [pI, Option.bind_some, up_eq]
  have g3 : fr (FRx x0) s (xm_up r2.1.1 x0 0 (iz (fnd nm a.1 pl)), r2.1.2) := g2.ui (hx 0)
  have c3 : CSt (xm_up r2.1.1 x0 0 (iz (fnd nm a.1 pl)), r2.1.2) B L q2 := c2.ux (by omega) (by omega)
  have hN3 : CNm (xm_up r2.1.1 x0 0 (iz (fnd nm a.1 pl)), r2.1.2) pl nm := hN2.fr (F := fun id _ => id == x0) ((fr.rf _ _).ui (beq_self_eq_true x0)) (FX_1 (y := 3) (by omega) 2) (FX_1 (by omega))
  have w0 : (xm_up r2.1.1 x0 0 (iz (fnd nm a.1 pl))) x0 0 = iz (fnd nm a.1 pl) := up_eq _ _ _ _
  have w11 : (xm_up r2.1.1 x0 0 (iz (fnd nm a.1 pl))) 1 11 = iz a.2 := by rw [up_id _ _ (by omega)]; exact n2
  generalize hW : ((xm_up r2.1.1 x0 0 (iz (fnd nm a.1 pl)), r2.1.2) : xS) = W at g3 c3 hN3
  have hW1 : xm_up r2.1.1 x0 0 (iz (fnd nm a.1 pl)) = W.1 := by rw [← hW]
  rw [hW1] at w0 w11 ⊢
  rw [izm1]
  by_cases k : fnd nm a.1 pl < 0
  · rw [it_eq_t (by omega), if_pos (Or.inl k), pBind_l, iz5]
    exact ct_failR (R := fun w => fr (FRx x0) s w) (a := 5) w11 rfl ((g3.ui rfl).ui rfl)
  · rw [it_eq_f (by omega) (by omega) (by omega) (by omega) (by omega), if_neg (fun r => by rcases r with r | r; exact k r; cases r), pBind_r]
    obtain ⟨u, hu⟩ : ∃ u : Nat, fnd nm a.1 pl = u := ⟨(fnd nm a.1 pl).toNat, by omega⟩
    rw [hu] at w0 fb ⊢
    rw [nat_toNat]
    refine cbind (R := fun w => fr (FRx x0) s w) (ct_word c3 _) (fun w hw => g3.tr (hw.mono (FTt_r x0))) (fun e r hr h0 h1 => by rw [ok_some]; exact ⟨hr, iz0, h1⟩) (fun _ q4 r4 f4 _ c4 _ => ?_)
    have g4 := g3.tr (f4.mono (FTt_r x0))
    have hN4 := hN3.fr f4 rfl (fun _ => rfl)
    rw [pPl, pBind_assoc]
    refine cbind (R := fun w => fr (FRx x0) s w) (ct_name c4) (fun w hw => g4.tr (hw.mono (FTt_r x0))) (fun e r hr h0 h1 => by rw [ok_some]; exact ⟨hr, iz0, h1⟩) (fun a5 q5 r5 f5 _ c5 ⟨n3, n4⟩ => ?_)
    have g5 := g4.tr (f5.mono (FTt_r x0))
    have hN5 := hN4.fr f5 rfl (fun _ => rfl)
    have fb5 := fnd_b nm a5.1 pl
    have w5 : r5.1.1 x0 0 = iz u := by rw [f5.i _ _ (FTt_x (by omega) _), f4.i _ _ (FTt_x (by omega) _)]; exact w0
    rw [n3, ct_find3 hN5.2.1 hpl hN5.2.2]
    simp only [pI, Option.bind_some, up_eq]
    have g6 : fr (FRx x0) s (xm_up r5.1.1 x0 1 (iz (fnd nm a5.1 pl)), r5.1.2) := g5.ui (hx 1)
    have c6 : CSt (xm_up r5.1.1 x0 1 (iz (fnd nm a5.1 pl)), r5.1.2) B L q5 := c5.ux (by omega) (by omega)
    have w6 : (xm_up r5.1.1 x0 1 (iz (fnd nm a5.1 pl))) 1 11 = iz a5.2 := by rw [up_id _ _ (by omega)]; exact n4
    rw [up_ix r5.1.1 (iz (fnd nm a5.1 pl)) (show 0 ≠ 1 by omega), w5]
    by_cases k5 : fnd nm a5.1 pl < 0
    · rw [it_eq_t (by omega), if_pos (Or.inl k5), pBind_l, iz5]
      exact ct_failR (R := fun w => fr (FRx x0) s w) (a := 5) w6 rfl ((g6.ui rfl).ui rfl)
    · rw [it_eq_f (by omega) (by omega) (by omega) (by omega) (by omega)]
      obtain ⟨l, hl⟩ : ∃ l : Nat, fnd nm a5.1 pl = l := ⟨(fnd nm a5.1 pl).toNat, by omega⟩
      rw [hl] at w6 fb5 g6 c6 ⊢
      rw [nat_toNat]
      by_cases k6 : l = u
      · rw [it_eq_t (by omega), if_pos (Or.inr (by rw [beq_iff_eq]; exact k6)), pBind_l, iz5]
        exact ct_failR (R := fun w => fr (FRx x0) s w) (a := 5) w6 rfl ((g6.ui rfl).ui rfl)
      · rw [it_eq_f (by omega) (by omega) (by omega) (by omega) (by omega), if_neg (fun r => by rcases r with r | r; omega; rw [beq_iff_eq] at r; exact k6 r), pBind_r, ok_some, iz1]
        exact ⟨g6, rfl, c6, by dsimp only; rw [up_ix _ _ (by omega)]; exact w5, by dsimp only; rw [up_eq]⟩
theorem ct_place {x0 : Nat} (x1 : 23 ≤ x0) (x2 : x0 ≤ 32) (hO : oK x0 6 = true) (h : CSt s B L q) {u l : Int32} (h0 : s.1 x0 0 = u) (h1 : s.1 x0 1 = l) : ok (f63 x0 1 s) (fun r => fr (FRx x0) s r.1 ∧ cOut B L (pR2 B L q) (fun a w => w.1 x0 0 = u ∧ w.1 x0 1 = l ∧ w.1 x0 2 = iz a.1 ∧ w.1 x0 3 = iz a.2.1 ∧ w.1 x0 4 = iz a.2.2) r) := by
  have hx := FRx_x x0
  unfold f63 f63_20 f63_72 pR2
  rw [ifg_pos hO, ifg_pos O_1]
  refine cbind (R := fun w => fr (FRx x0) s w) (ct_word h _) (fun w hw => hw.mono (FTt_r x0)) (fun e r hr h0 h1 => by rw [ok_some]; exact ⟨hr, iz0, h1⟩) (fun _ q1 r1 f1 _ c1 _ => ?_)
  have g1 := f1.mono (FTt_r x0)
  have n2 := ct_num (sd := false) (lo := 0) (hi := 3) c1 (by omega) (by omega) (by omega)
  rw [← iz0, ← iz3, if_neg (show ¬ false = true by decide)] at n2
  refine cbind (R := fun w => fr (FRx x0) s w) n2 (fun w hw => g1.tr (hw.mono (FTt_r x0))) (fun e r hr h0 h1 => by rw [ok_some]; exact ⟨hr, iz0, h1⟩) (fun t q2 r2 f2 e2 c2 j2 => ?_)
  have g2 := g1.tr (f2.mono (FTt_r x0))
  have t0 := pNu_q c1.2.1 e2
  dsimp only at t0
  obtain ⟨tn, rfl⟩ : ∃ tn : Nat, t = tn := ⟨t.toNat, by omega⟩
  rw [nat_toNat]
  simp only [pI, Option.bind_some, j2]
  have g3 : fr (FRx x0) s (xm_up (xm_up (xm_up r2.1.1 x0 2 (iz tn)) x0 3 0) x0 4 0, r2.1.2) := ((g2.ui (hx 2)).ui (hx 3)).ui (hx 4)
  have c3 : CSt (xm_up (xm_up (xm_up r2.1.1 x0 2 (iz tn)) x0 3 0) x0 4 0, r2.1.2) B L q2 := ((c2.ux (v := iz tn) (k := 2) (x0 := x0) (by omega) (by omega)).ux (v := 0) (k := 3) (x0 := x0) (by omega) (by omega)).ux (by omega) (by omega)
  have a0 : (xm_up (xm_up (xm_up r2.1.1 x0 2 (iz tn)) x0 3 0) x0 4 0) x0 0 = u := by
    rw [up_ix _ _ (by omega), up_ix _ _ (by omega), up_ix _ _ (by omega), f2.i _ _ (FTt_x (by omega) _), f1.i _ _ (FTt_x (by omega) _)]; exact h0
  have a1 : (xm_up (xm_up (xm_up r2.1.1 x0 2 (iz tn)) x0 3 0) x0 4 0) x0 1 = l := by
    rw [up_ix _ _ (by omega), up_ix _ _ (by omega), up_ix _ _ (by omega), f2.i _ _ (FTt_x (by omega) _), f1.i _ _ (FTt_x (by omega) _)]; exact h1
  have a2 : (xm_up (xm_up (xm_up r2.1.1 x0 2 (iz tn)) x0 3 0) x0 4 0) x0 2 = iz tn := by
    rw [up_ix _ _ (by omega), up_ix _ _ (by omega), up_eq]
  have a3 : (xm_up (xm_up (xm_up r2.1.1 x0 2 (iz tn)) x0 3 0) x0 4 0) x0 3 = iz 0 := by
    rw [up_ix _ _ (by omega), up_eq, iz0]
  have a4 : (xm_up (xm_up (xm_up r2.1.1 x0 2 (iz tn)) x0 3 0) x0 4 0) x0 4 = iz 0 := by
    rw [up_eq, iz0]
  generalize hW : ((xm_up (xm_up (xm_up r2.1.1 x0 2 (iz tn)) x0 3 0) x0 4 0, r2.1.2) : xS) = W at g3 c3 ⊢
  rw [show xm_up (xm_up (xm_up r2.1.1 x0 2 (iz tn)) x0 3 0) x0 4 0 = W.1 by rw [← hW]] at a0 a1 a2 a3 a4
  rw [ct_isw c3]
  simp only [Option.bind_some]
  by_cases k : (tok B L q2).1 = 1 ∧ tkW B L q2 = 25209
  · simp only [if_pos k]
    rw [it_z1 rfl]
    have e3 : pWd B L 25209 q2 = .inr ((), (tok B L q2).2.2) := by unfold pWd; rw [if_pos k]
    have n3 := ct_word c3 25209
    rw [show (pBind (pNu B L true (-1) 1 (tok B L q2).2.2) fun a q => pBind (pNu B L true (-1) 1 q) fun c q => (.inr ((tn, a, c), q) : PR (Nat × Int × Int))) = pBind (pWd B L 25209 q2) (fun _ q' => pBind (pNu B L true (-1) 1 q') fun a q => pBind (pNu B L true (-1) 1 q) fun c q => (.inr ((tn, a, c), q) : PR (Nat × Int × Int))) by rw [e3, pBind_r]]
    refine cbind (R := fun w => fr (FRx x0) s w) n3 (fun w hw => g3.tr (hw.mono (FTt_r x0))) (fun e r hr h0 h1 => by rw [ok_some]; exact ⟨hr, iz0, h1⟩) (fun _ q4 r4 f4 _ c4 _ => ?_)
    have g4 := g3.tr (f4.mono (FTt_r x0))
    have n5 := ct_num (sd := true) (lo := -1) (hi := 1) c4 (by omega) (by omega) (by omega)
    rw [← izm1, ← iz1, if_pos rfl] at n5
    refine cbind (R := fun w => fr (FRx x0) s w) n5 (fun w hw => g4.tr (hw.mono (FTt_r x0))) (fun e r hr h0 h1 => by rw [ok_some]; exact ⟨hr, iz0, h1⟩) (fun a q5 r5 f5 _ c5 j5 => ?_)
    have g5 := g4.tr (f5.mono (FTt_r x0))
    simp only [pI, Option.bind_some, j5]
    have g6 : fr (FRx x0) s (xm_up r5.1.1 x0 3 (iz a), r5.1.2) := g5.ui (hx 3)
    have c6 : CSt (xm_up r5.1.1 x0 3 (iz a), r5.1.2) B L q5 := c5.ux (by omega) (by omega)
    have n6 := ct_num (sd := true) (lo := -1) (hi := 1) c6 (by omega) (by omega) (by omega)
    rw [← izm1, ← iz1, if_pos rfl] at n6
    refine cbind (R := fun w => fr (FRx x0) s w) n6 (fun w hw => g6.tr (hw.mono (FTt_r x0))) (fun e r hr h0 h1 => by rw [ok_some]; exact ⟨hr, iz0, h1⟩) (fun c q7 r7 f7 _ c7 j7 => ?_)
    have g7 := g6.tr (f7.mono (FTt_r x0))
    have old : ∀ k, k ≠ 3 → k ≠ 4 → (xm_up r7.1.1 x0 4 (iz c)) x0 k = W.1 x0 k := fun k k1 k2 => by
      rw [up_ix _ _ k2, f7.i _ _ (FTt_x (by omega) _)]
      dsimp only
      rw [up_ix _ _ k1, f5.i _ _ (FTt_x (by omega) _), f4.i _ _ (FTt_x (by omega) _)]
    rw [j7, ok_some, iz1]
    refine ⟨g7.ui (hx 4), rfl, c7.ux (by omega) (by omega), (old 0 (by omega) (by omega)).trans a0, (old 1 (by omega) (by omega)).trans a1, (old 2 (by omega) (by omega)).trans a2, ?_, ?_⟩
    · dsimp only
      rw [up_ix _ _ (by omega), f7.i _ _ (FTt_x (by omega) _)]
      exact up_eq _ _ _ _
    · dsimp only
      rw [up_eq]
  · simp only [if_neg k]
    rw [it_z0 rfl, ok_some, iz1]
    exact ⟨g3, rfl, c3, a0, a1, a2, a3, a4⟩
theorem ct_scrape {x0 : Nat} (x1 : 23 ≤ x0) (x2 : x0 ≤ 32) (hO : oK x0 6 = true) (h : CSt s B L q) (hN : CNm s pl nm) {u l : Nat} (hu : u < 4) (hl : l < 4) (h0 : s.1 x0 0 = iz u) (h1 : s.1 x0 1 = iz l) : ok (f64 x0 1 3 s) (fun r => fr (FRx x0) s r.1 ∧ (∀ k, k ≤ 4 → r.1.1 x0 k = s.1 x0 k) ∧ cOut B L (pR3 B L nm pl u l q) (fun a w => w.1 x0 5 = iz a.1 ∧ w.1 x0 6 = iz a.2) r) := by
  have hx := FRx_x x0
  have hpl := hN.1
  have main : ok (f64 x0 1 3 s) (fun r => (fr (FRx x0) s r.1 ∧ ∀ k, k ≤ 4 → r.1.1 x0 k = s.1 x0 k) ∧ cOut B L (pR3 B L nm pl u l q) (fun a w => w.1 x0 5 = iz a.1 ∧ w.1 x0 6 = iz a.2) r) := by
    have tt : ∀ {w w' : xS}, (fr (FRx x0) s w ∧ ∀ k, k ≤ 4 → w.1 x0 k = s.1 x0 k) → fr FTt w w' → (fr (FRx x0) s w' ∧ ∀ k, k ≤ 4 → w'.1 x0 k = s.1 x0 k) := fun hw hf => ⟨hw.1.tr (hf.mono (FTt_r x0)), fun k hk => by rw [hf.i _ _ (FTt_x (by omega) _)]; exact hw.2 k hk⟩
    have t1 : fr (FRx x0) s s ∧ ∀ k, k ≤ 4 → s.1 x0 k = s.1 x0 k := ⟨fr.rf _ _, fun _ _ => rfl⟩
    unfold f64 f64_17 pR3
    rw [ifg_pos hO, ifg_pos O_1, ifg_pos O_3]
    refine cbind (R := fun w => fr (FRx x0) s w ∧ ∀ k, k ≤ 4 → w.1 x0 k = s.1 x0 k) (ct_word h _) (fun w hw => tt t1 hw) (fun e r hr h0 h1 => by rw [ok_some]; exact ⟨hr, iz0, h1⟩) (fun _ q1 r1 f1 _ c1 _ => ?_)
    have g1 := tt t1 f1
    have hN1 := hN.fr f1 rfl (fun _ => rfl)
    rw [pPl, pBind_assoc]
    refine cbind (R := fun w => fr (FRx x0) s w ∧ ∀ k, k ≤ 4 → w.1 x0 k = s.1 x0 k) (ct_name c1) (fun w hw => tt g1 hw) (fun e r hr h0 h1 => by rw [ok_some]; exact ⟨hr, iz0, h1⟩) (fun a q2 r2 f2 _ c2 ⟨n1, n2⟩ => ?_)
    have g2 := tt g1 f2
    have hN2 := hN1.fr f2 rfl (fun _ => rfl)
    have fb := fnd_b nm a.1 pl
    rw [n1, ct_find3 hN2.2.1 hpl hN2.2.2]
    simp only [pI, Option.bind_some, up_eq]
    rw [up_ix r2.1.1 (iz (fnd nm a.1 pl)) (show 0 ≠ 5 by omega), up_ix r2.1.1 (iz (fnd nm a.1 pl)) (show 1 ≠ 5 by omega), g2.2 0 (by omega), g2.2 1 (by omega), h0, h1]
    have g3 : fr (FRx x0) s (xm_up r2.1.1 x0 5 (iz (fnd nm a.1 pl)), r2.1.2) ∧ ∀ k, k ≤ 4 → (xm_up r2.1.1 x0 5 (iz (fnd nm a.1 pl))) x0 k = s.1 x0 k := ⟨g2.1.ui (hx 5), fun k hk => by rw [up_ix _ _ (by omega)]; exact g2.2 k hk⟩
    have c3 : CSt (xm_up r2.1.1 x0 5 (iz (fnd nm a.1 pl)), r2.1.2) B L q2 := c2.ux (by omega) (by omega)
    have w5 : (xm_up r2.1.1 x0 5 (iz (fnd nm a.1 pl))) x0 5 = iz (fnd nm a.1 pl) := up_eq _ _ _ _
    have w11 : (xm_up r2.1.1 x0 5 (iz (fnd nm a.1 pl))) 1 11 = iz a.2 := by rw [up_id _ _ (by omega)]; exact n2
    generalize hW : ((xm_up r2.1.1 x0 5 (iz (fnd nm a.1 pl)), r2.1.2) : xS) = W at c3 ⊢
    rw [show xm_up r2.1.1 x0 5 (iz (fnd nm a.1 pl)) = W.1 by rw [← hW]] at w5 w11 ⊢
    replace g3 : fr (FRx x0) s W ∧ ∀ k, k ≤ 4 → W.1 x0 k = s.1 x0 k := by rw [← hW]; exact g3
    have good : ∀ sc : Nat, fnd nm a.1 pl = sc → ok (f64_63 x0 1 W) (fun r' => (fr (FRx x0) s r'.1 ∧ ∀ k, k ≤ 4 → r'.1.1 x0 k = s.1 x0 k) ∧ cOut B L (pBind (pWd B L 1684366704 q2) fun _ q => pBind (pNu B L false 1 9 q) fun d q => pBind (pSt B L q) fun _ q => .inr ((sc, d), q)) (fun a w => w.1 x0 5 = iz a.1 ∧ w.1 x0 6 = iz a.2) r') := by
      intro sc hsc
      unfold f64_63 f64_84
      refine cbind (R := fun w => fr (FRx x0) s w ∧ ∀ k, k ≤ 4 → w.1 x0 k = s.1 x0 k) (ct_word c3 _) (fun w hw => tt g3 hw) (fun e r hr h0 h1 => by rw [ok_some]; exact ⟨hr, iz0, h1⟩) (fun _ q4 r4 f4 _ c4 _ => ?_)
      have g4 := tt g3 f4
      have n5 := ct_num (sd := false) (lo := 1) (hi := 9) c4 (by omega) (by omega) (by omega)
      rw [← iz1, ← iz9, if_neg (show ¬ false = true by decide)] at n5
      refine cbind (R := fun w => fr (FRx x0) s w ∧ ∀ k, k ≤ 4 → w.1 x0 k = s.1 x0 k) n5 (fun w hw => tt g4 hw) (fun e r hr h0 h1 => by rw [ok_some]; exact ⟨hr, iz0, h1⟩) (fun d q5 r5 f5 _ c5 j5 => ?_)
      have g5 := tt g4 f5
      simp only [pI, Option.bind_some, j5]
      have g6 : fr (FRx x0) s (xm_up r5.1.1 x0 6 (iz d), r5.1.2) ∧ ∀ k, k ≤ 4 → (xm_up r5.1.1 x0 6 (iz d)) x0 k = s.1 x0 k := ⟨g5.1.ui (hx 6), fun k hk => by rw [up_ix _ _ (by omega)]; exact g5.2 k hk⟩
      have c6 : CSt (xm_up r5.1.1 x0 6 (iz d), r5.1.2) B L q5 := c5.ux (by omega) (by omega)
      refine (ct_stop c6).bind (fun r7 ⟨f7, o7⟩ => ?_)
      cases hp : pSt B L q5 with
      | inl e =>
        rw [hp] at o7
        rw [cd0 (Or.inl o7.1), ok_some, pBind_l]
        exact ⟨tt (w := (xm_up r5.1.1 x0 6 (iz d), r5.1.2)) g6 f7, o7⟩
      | inr y =>
        rw [hp] at o7
        rw [cd0 (Or.inr o7.1), ok_some]
        refine ⟨tt (w := (xm_up r5.1.1 x0 6 (iz d), r5.1.2)) g6 f7, o7.1, o7.2.1, ?_, ?_⟩
        · rw [f7.i _ _ (FTt_x (by omega) _)]
          dsimp only
          rw [up_ix _ _ (by omega), f5.i _ _ (FTt_x (by omega) _), f4.i _ _ (FTt_x (by omega) _), w5, hsc]
        · rw [f7.i _ _ (FTt_x (by omega) _)]
          dsimp only
          rw [up_eq]
    by_cases k1 : fnd nm a.1 pl = u
    · rw [it_eq_t k1, if_neg (fun r => by rcases r with r | r; omega; rw [k1, nat_toNat] at r; simp at r), pBind_r, k1, nat_toNat]
      exact good u k1
    · rw [it_eq_f k1 (by omega) (by omega) (by omega) (by omega)]
      by_cases k2 : fnd nm a.1 pl = l
      · rw [it_eq_t k2, if_neg (fun r => by rcases r with r | r; omega; rw [k2, nat_toNat] at r; simp at r), pBind_r, k2, nat_toNat]
        exact good l k2
      · rw [it_eq_f k2 (by omega) (by omega) (by omega) (by omega), if_pos, pBind_l, iz5]
        · exact ct_failR (R := fun w => fr (FRx x0) s w ∧ ∀ k, k ≤ 4 → w.1 x0 k = s.1 x0 k) (a := 5) w11 rfl ⟨(g3.1.ui rfl).ui rfl, fun k hk => by dsimp only; rw [up_id _ _ (by omega), up_id _ _ (by omega)]; exact g3.2 k hk⟩
        · rcases fb with fb | fb
          · exact Or.inl (by omega)
          · refine Or.inr ?_
            rw [Bool.and_eq_true, bne_iff_ne, bne_iff_ne]
            omega
  exact main.mono (fun r hr => ⟨hr.1.1, hr.1.2, hr.2⟩)
end CRd
