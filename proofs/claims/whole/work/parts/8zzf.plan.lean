/-! a round, a plan, an order at the class -/
theorem AR_22 {r : Nat} (h : r < 10) : aR 22 (iz r) = some (23 + r) := by
  have : r = 0 ∨ r = 1 ∨ r = 2 ∨ r = 3 ∨ r = 4 ∨ r = 5 ∨ r = 6 ∨ r = 7 ∨ r = 8 ∨ r = 9 := by omega
  have e : hk_ks[22]? = some (25, 10) := by decide +kernel
  unfold aR
  rw [e]
  simp (disch := omega) only [iz_in, iz_n, nat_toNat, if_true, and_true, or_true]
  rcases this with rfl | rfl | rfl | rfl | rfl | rfl | rfl | rfl | rfl | rfl <;> exact (hk_R_at (by decide) (by decide)).trans rfl
theorem O_23r {r : Nat} (h : r < 10) : oK (23 + r) 6 = true := by
  have : r = 0 ∨ r = 1 ∨ r = 2 ∨ r = 3 ∨ r = 4 ∨ r = 5 ∨ r = 6 ∨ r = 7 ∨ r = 8 ∨ r = 9 := by omega
  rcases this with rfl | rfl | rfl | rfl | rfl | rfl | rfl | rfl | rfl | rfl <;> rfl
theorem O_11r {r : Nat} (h : r < 10) : oK (11 + r) 6 = true := by
  have : r = 0 ∨ r = 1 ∨ r = 2 ∨ r = 3 ∨ r = 4 ∨ r = 5 ∨ r = 6 ∨ r = 7 ∨ r = 8 ∨ r = 9 := by omega
  rcases this with rfl | rfl | rfl | rfl | rfl | rfl | rfl | rfl | rfl | rfl <;> rfl
theorem whl_ok0 {A R : Type} {body : A → Option (A ⊕ R)} {Q : R → Prop} {s : A} (h : ok (body s) (Sum.elim (fun w => ok (whl body w) Q) Q)) : ok (whl body s) Q := by
  obtain ⟨r, h1, h2⟩ := h
  cases r with
  | inl w =>
    obtain ⟨v, h3, h4⟩ := h2
    exact ⟨v, (whl_inl h1).trans h3, h4⟩
  | inr v => exact ⟨v, whl_inr h1, h2⟩
theorem whl_ok {A R : Type} {body : A → Option (A ⊕ R)} {Q : R → Prop} {s : A} (h : ∀ Z : A ⊕ R → Prop, (∀ w, ok (whl body w) Q → Z (.inl w)) → (∀ v, Q v → Z (.inr v)) → ok (body s) Z) : ok (whl body s) Q := whl_ok0 (h _ (fun _ hw => hw) (fun _ hv => hv))
theorem cbindR {α β : Type} {R : xS → Prop} {B : Nat → Int} {L : Nat} {p : PR α} {J : α → xS → Prop} {f : α → Nat → PR β} {K : β → xS → Prop} {x : Option (xS × Int32)} {g0 g1 : xS × Int32 → Option (xS × Int32)} (h : ok x (fun r => R r.1 ∧ cOut B L p J r)) (h0 : ∀ e r, R r.1 → r.2 = iz 0 → CFa r.1 e → ok (g0 r) (fun r' => R r'.1 ∧ r'.2 = iz 0 ∧ CFa r'.1 e)) (h1 : ∀ a q r, R r.1 → p = .inr (a, q) → CSt r.1 B L q → J a r.1 → ok (g1 r) (fun r' => R r'.1 ∧ cOut B L (f a q) K r')) : ok (x.bind (fun z => if z.2 = 0 then g0 z else g1 z)) (fun r' => R r'.1 ∧ cOut B L (pBind p f) K r') := by
  refine h.bind (fun r ⟨a1, a2⟩ => ?_)
  cases p with
  | inl e =>
    obtain ⟨b1, b2⟩ := a2
    rw [it_z0 b1]
    exact (h0 e r a1 b1 b2).mono (fun r' ⟨c0, c1, c2⟩ => ⟨c0, c1, c2⟩)
  | inr y =>
    obtain ⟨b1, b2, b3⟩ := a2
    rw [it_z1 b1]
    exact h1 y.1 y.2 r a1 rfl b2 b3
section CPl
variable {s : xS} {B : Nat → Int} {L q pl : Nat} {nm : Nat → Int64}
theorem pR1_q (hq : q ≤ L) {a : Nat × Nat} {q1 : Nat} (h1 : pR1 B L nm pl q = .inr (a, q1)) : a.1 < pl ∧ a.2 < pl := by
  unfold pR1 at h1
  obtain ⟨_, a1, e1, h1⟩ := pBind_inr h1
  obtain ⟨u, a2, e2, h1⟩ := pBind_inr h1
  obtain ⟨_, a3, e3, h1⟩ := pBind_inr h1
  obtain ⟨l, a4, e4, h1⟩ := pBind_inr h1
  cases h1
  have b1 := pWd_q hq e1
  have b2 := pPl_q b1.2 e2
  have b3 := pWd_q b2.2.1 e3
  have b4 := pPl_q b3.2 e4
  exact ⟨b2.2.2.1, b4.2.2.1⟩
theorem ct_round {x0 : Nat} (x1 : 23 ≤ x0) (x2 : x0 ≤ 32) (hO : oK x0 6 = true) (h : CSt s B L q) (hN : CNm s pl nm) : ok (f61 x0 1 3 s) (fun r => fr (FRx x0) s r.1 ∧ cOut B L (pRd B L nm pl q) (fun a w => CR w x0 a) r) := by
  have hpl := hN.1
  have F3 : ∀ k, FRx x0 3 k = false := fun k => by unfold FRx; rw [show (3 == x0) = false from beq_false_of_ne (by omega)]; rfl
  have F4 : ∀ k, FRx x0 4 k = false := fun k => by unfold FRx; rw [show (4 == x0) = false from beq_false_of_ne (by omega)]; rfl
  unfold f61 f61_30 f61_31 pRd
  rw [ifg_pos hO, ifg_pos O_1, ifg_pos O_3]
  refine cbindR (R := fun w => fr (FRx x0) s w) (ct_plates x1 x2 hO h hN) (fun e r hr h0 h1 => by rw [ifg_pos (Or.inl rfl), ok_some]; exact ⟨hr, iz0, h1⟩) (fun ul q1 r1 g1 e1 c1 ⟨a0, a1⟩ => ?_)
  obtain ⟨u1, u2⟩ := pR1_q h.2.1 e1
  refine cbindR (R := fun w => fr (FRx x0) s w) ((ct_place x1 x2 hO c1 a0 a1).mono (fun r hr => ⟨g1.tr hr.1, hr.2⟩)) (fun e r hr h0 h1 => by rw [ifg_pos (Or.inl rfl), ok_some]; exact ⟨hr, iz0, h1⟩) (fun t q2 r2 g2 e2 c2 ⟨b0, b1, b2, b3, b4⟩ => ?_)
  have hN2 := hN.fr g2 (F3 _) F4
  refine (ct_scrape x1 x2 hO c2 hN2 (u := ul.1) (l := ul.2) (by omega) (by omega) b0 b1).bind (fun r3 ⟨f3, o3, p3⟩ => ?_)
  have g3 := g2.tr f3
  cases hp : pR3 B L nm pl ul.1 ul.2 q2 with
  | inl e =>
    rw [hp] at p3
    rw [it_z0 p3.1, ifg_pos (Or.inl rfl), ok_some]
    exact ⟨g3, iz0, p3.2⟩
  | inr y =>
    rw [hp] at p3
    rw [it_z1 p3.1, ifg_pos (Or.inr rfl), ok_some]
    refine ⟨g3, iz1, p3.2.1, ?_⟩
    exact ⟨(o3 0 (by omega)).trans b0, (o3 1 (by omega)).trans b1, (o3 2 (by omega)).trans b2, (o3 3 (by omega)).trans b3, (o3 4 (by omega)).trans b4, p3.2.2.1, p3.2.2.2⟩
def FCq (id k : Nat) : Bool := (id == 1 && Nat.ble 2 k) || (Nat.ble 21 id && Nat.ble id 32)
theorem FTt_q (id k : Nat) (h : FTt id k = true) : FCq id k = true := by
  unfold FTt at h
  unfold FCq
  rw [h]
  rfl
theorem FCq_x {x0 : Nat} (h1 : 21 ≤ x0) (h2 : x0 ≤ 32) (k : Nat) : FCq x0 k = true := by
  unfold FCq
  rw [Nat.ble_eq_true_of_le h1, Nat.ble_eq_true_of_le h2]
  simp
theorem FRx_p {x0 : Nat} (h1 : 21 ≤ x0) (h2 : x0 ≤ 32) (id k : Nat) (h : FRx x0 id k = true) : FCq id k = true := by
  unfold FRx at h
  rw [Bool.or_eq_true, beq_iff_eq] at h
  rcases h with h | h
  · unfold FCq
    rw [h]
    rfl
  · rw [h]
    exact FCq_x h1 h2 k
theorem FRx_n {x0 y : Nat} (h : y ≠ x0) (h1 : y ≠ 1) (k : Nat) : FRx x0 y k = false := by
  unfold FRx
  rw [show (y == x0) = false from beq_false_of_ne h, show (y == 1) = false from beq_false_of_ne h1]
  rfl
theorem ct_plan (hN : CNm s pl nm) : ∀ f c Rs q w, c + f = 10 → fr FCq s w → CSt w B L q → w.1 21 1 = iz (c : Nat) → (∀ i, i < c → CR w (23 + i) (Rs i)) → ok (whl (fun z : xS => f42_5 21 1 3 z) w) (fun r => fr FCq s r.1 ∧ cOut B L (pOr B L nm pl f c Rs q) (fun a w => w.1 21 1 = iz (a.1 : Nat) ∧ a.1 ≤ 10 ∧ ∀ i, i < a.1 → CR w (23 + i) (a.2 i)) r)
  | 0, c, Rs, q, w, hc, hf, h, h1, hR => by
    by_cases g : (tok B L q).1 = 0
    · have e0 : pOr B L nm pl 0 c Rs q = .inr ((c, Rs), q) := by unfold pOr; rw [if_pos g]
      rw [e0]
      refine whl_ok (fun Z hl hr => ?_)
      unfold f42_5 f42_69 f42_74
      rw [h1, iz10, it_le_t (by omega) (by omega) (by omega), ct_end h]
      simp only [Option.bind_some]
      simp only [if_pos g]
      rw [it_z1 rfl, ifg_pos (by simp), ok_map, ok_some]
      exact hr _ ⟨hf, iz1, h, h1, by dsimp only; omega, hR⟩
    · have e0 : pOr B L nm pl 0 c Rs q = .inl (pBad B L q) := by unfold pOr; rw [if_neg g]
      rw [e0]
      refine whl_ok (fun Z hl hr => ?_)
      unfold f42_5 f42_69 f42_74
      rw [h1, iz10, it_le_t (by omega) (by omega) (by omega), ct_end h]
      simp only [Option.bind_some]
      simp only [if_neg g]
      rw [it_z0 rfl, ok_map]
      refine (ct_refuse h).bind (fun r ⟨c1, c2, c3⟩ => ?_)
      rw [it_z0 c2, ifg_pos (by simp), ok_some]
      exact hr _ ⟨hf.tr (c1.mono FTt_q), iz0, c3⟩
  | f + 1, c, Rs, q, w, hc, hf, h, h1, hR => by
    by_cases g : (tok B L q).1 = 0
    · have e0 : pOr B L nm pl (f + 1) c Rs q = .inr ((c, Rs), q) := by unfold pOr; rw [if_pos g]
      rw [e0]
      refine whl_ok (fun Z hl hr => ?_)
      unfold f42_5
      rw [h1, iz10, it_le_f (by omega) (by omega) (by omega), ct_end h]
      simp only [Option.bind_some]
      simp only [if_pos g]
      rw [it_z1 rfl, ok_map, ok_some]
      exact hr _ ⟨hf, iz1, h, h1, by dsimp only; omega, hR⟩
    · have e0 : pOr B L nm pl (f + 1) c Rs q = pBind (pRd B L nm pl q) (fun R q' => pOr B L nm pl f (c + 1) (fun i => if i = c then R else Rs i) q') := by conv => lhs; unfold pOr; rw [if_neg g]
      rw [e0]
      refine whl_ok (fun Z hl hr => ?_)
      unfold f42_5
      rw [h1, iz10, it_le_f (by omega) (by omega) (by omega), ct_end h]
      simp only [Option.bind_some]
      simp only [if_neg g]
      rw [it_z0 rfl]
      have hN' := hN.fr hf rfl (fun _ => rfl)
      simp only [R_21_0, Option.bind_some, h1, AR_22 (show c < 10 by omega)]
      rw [ifg_pos (O_23r (by omega))]
      refine (ct_round (x0 := 23 + c) (by omega) (by omega) (O_23r (by omega)) h hN').bind (fun r ⟨c1, c2⟩ => ?_)
      cases hp : pRd B L nm pl q with
      | inl e =>
        rw [hp] at c2 hr
        rw [it_z0 c2.1, ok_map, ok_some]
        exact hr _ ⟨hf.tr (c1.mono (FRx_p (by omega) (by omega))), iz0, c2.2⟩
      | inr y =>
        rw [hp] at c2 hl
        rw [it_z1 c2.1]
        simp only [pI, Option.bind_some]
        rw [c1.i 21 1 (FRx_n (by omega) (by omega) _), h1, iz1, iz_add, ok_some]
        refine hl _ (ct_plan hN f (c + 1) (fun i => if i = c then y.1 else Rs i) y.2 _ (by omega) ((hf.tr (c1.mono (FRx_p (by omega) (by omega)))).ui rfl) (c2.2.1.ux (by omega) (by omega)) (up_eqP _ _ _ _ _) (fun i hi => ?_))
        have k1 : fr (fun id _ => id == 21) r.1 (xm_up r.1.1 21 1 (iz ((c : Int) + 1)), r.1.2) := (fr.rf _ _).ui rfl
        by_cases e : i = c
        · rw [if_pos e, e]
          exact c2.2.2.fr k1 (fun k => beq_false_of_ne (by omega))
        · rw [if_neg e]
          exact ((hR i (by omega)).fr c1 (fun k => FRx_n (by omega) (by omega) k)).fr k1 (fun k => beq_false_of_ne (by omega))
theorem pOr_q {n : Nat} (hn : 3 ≤ n ∧ n ≤ 5) : ∀ f c Rs q, q ≤ L → (∀ i, i < c → Rv pl n (Rs i)) → ∀ a q', pOr B L nm pl f c Rs q = .inr (a, q') → a.1 ≤ c + f ∧ ∀ i, i < a.1 → Rv pl n (a.2 i)
  | 0, c, Rs, q, hq, hR, a, q', h => by
    unfold pOr at h
    split at h
    · cases h
      exact ⟨Nat.le_refl _, hR⟩
    · cases h
  | f + 1, c, Rs, q, hq, hR, a, q', h => by
    unfold pOr at h
    split at h
    · cases h
      exact ⟨by dsimp only; omega, hR⟩
    · obtain ⟨R, q1, h1, h2⟩ := pBind_inr h
      have b := pRd_q hq hn h1
      have := pOr_q hn f (c + 1) _ q1 b.2.1 (fun i hi => by
        by_cases e : i = c
        · rw [if_pos e]; exact b.2.2
        · rw [if_neg e]; exact hR i (by omega)) a q' h2
      exact ⟨by omega, this.2⟩
/-- the plan becomes another -/
def FPb (id k : Nat) : Bool := (id == 9 && k == 1) || (Nat.ble 11 id && Nat.ble id 20)
theorem FPb_x {x0 : Nat} (h1 : 11 ≤ x0) (h2 : x0 ≤ 20) (k : Nat) : FPb x0 k = true := by
  unfold FPb
  rw [Nat.ble_eq_true_of_le h1, Nat.ble_eq_true_of_le h2]
  simp
theorem FPb_n {x0 : Nat} (h1 : 21 ≤ x0) (k : Nat) : FPb x0 k = false := by
  unfold FPb
  rw [ble_f (show 20 < x0 by omega), show (x0 == 9) = false from beq_false_of_ne (by omega)]
  simp
theorem ct_copy {a d : Nat} (ha : 21 ≤ a) (hd : 11 ≤ d) (hd2 : d ≤ 20) (hO : oK d 6 = true) (hO2 : oK a 6 = true) {R : Rn} (h : CR s a R) : ok (f60 d a s) (fun r => fr (fun id _ => id == d) s r.1 ∧ CR r.1 d R) := by
  obtain ⟨h0, h1, h2, h3, h4, h5, h6⟩ := h
  unfold f60
  rw [ifg_pos hO, ifg_pos hO2]
  have ne : a ≠ d := by omega
  simp (disch := omega) only [pI, Option.bind_some, up_id, h0, h1, h2, h3, h4, h5, h6]
  rw [ok_some]
  have eb := beq_self_eq_true d
  refine ⟨((((((((fr.rf (fun id (_ : Nat) => id == d) s).ui (id := d) (k := 0) eb).ui (id := d) (k := 1) eb).ui (id := d) (k := 2) eb).ui (id := d) (k := 3) eb).ui (id := d) (k := 4) eb).ui (id := d) (k := 5) eb).ui (id := d) (k := 6) eb), ?_⟩
  unfold CR
  simp (disch := omega) only [up_ix, up_eq, true_and]
theorem ct_become {c : Nat} {Rs : Nat → Rn} (hc : c ≤ 10) (h1 : s.1 21 1 = iz c) (h : ∀ i, i < c → CR s (23 + i) (Rs i)) : ok (f41 9 21 s) (fun r => fr FPb s r.1 ∧ r.1.1 9 1 = iz c ∧ ∀ i, i < c → CR r.1 (11 + i) (Rs i)) := by
  unfold f41
  rw [ifg_pos O_9, ifg_pos O_21, iz0]
  refine forz (fun m w => fr FPb s w ∧ ∀ i, i < m → CR w (11 + i) (Rs i)) 0 c (by omega) (by omega) ⟨fr.rf _ _, fun i hi => by omega⟩ (fun m w _ hm ⟨a1, a2⟩ => ?_) (fun w ⟨a1, a2⟩ => ?_)
  · dsimp only
    unfold f41_2
    rw [a1.i 21 1 (FPb_n (by omega) _), h1, it_le_f (by omega) (by omega) (by omega)]
    simp only [R_9_0, R_21_0, Option.bind_some, AR_10 (show m < 10 by omega), AR_22 (show m < 10 by omega)]
    rw [ifg_pos (O_11r (by omega)), ifg_pos (O_23r (by omega))]
    refine (ct_copy (by omega) (by omega) (by omega) (O_11r (by omega)) (O_23r (by omega)) ((h m hm).fr a1 (fun k => FPb_n (by omega) k))).bind (fun r ⟨b1, b2⟩ => ?_)
    rw [ok_some, lp_l, iz1, iz_add]
    refine ⟨rfl, a1.tr (b1.mono (fun id k hk => by rw [beq_iff_eq] at hk; rw [hk]; exact FPb_x (by omega) (by omega) k)), fun i hi => ?_⟩
    by_cases e : i = m
    · rw [e]; exact b2
    · exact (a2 i (by omega)).fr b1 (fun k => beq_false_of_ne (by omega))
  · dsimp only
    unfold f41_2
    rw [a1.i 21 1 (FPb_n (by omega) _), h1, it_le_t (by omega) (by omega) (by omega)]
    simp only [pI, Option.bind_some, ok_map, ok_some, lp_r]
    exact ⟨a1.ui rfl, up_eq _ _ _ _, fun i hi => (a2 i hi).fr (F := fun id _ => id == 9) ((fr.rf _ _).ui rfl) (fun k => beq_false_of_ne (by omega))⟩
end CPl
